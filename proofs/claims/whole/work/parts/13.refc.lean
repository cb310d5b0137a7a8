/-! contracts, laid by program (wip/whole/gen.py, ann.py) -/
theorem kyX7_wayTo : kY yX7_wayTo cX7_wayTo 6 (some .int) wsX7_wayTo wsX7_wayTo.tail 2 := ⟨rfl, by decide, by decide, by decide +kernel⟩
set_option maxHeartbeats 4000000 in
set_option maxRecDepth 100000 in
theorem k_X7_wayTo (l : Launch) (D : va_G) (ct : ClassId × ClassId × ClassId) (z : Nat × Nat) (h : Nat) (ad : Nat → Nat) (x1 : Int32) (x2 : Int32) (st : Nat → Nat → Int32)  : kC l D ct z yX7_wayTo wsX7_wayTo 3 70 [.ref h, .int x1, .int x2] (mW h ad ct st) (some (.int (f_X7_wayTo x1 x2 st))) (mW h ad ct st) := by
  refine kHead (cc := cX7_wayTo) (maxL := 6) (ret := (some .int)) [(0, .ref h), (1, .int x1), (2, .int x2)] (by decide) rfl (Nat.le_of_ble_eq_true rfl) rfl ?_
  intro p e s m args below meth c A ls R Q hRf hRl hQ hx hb hr hlk hml hown hts hA hS hK hP hD hl
  have inX7 : ∀ w ∈ wsX70, w ∈ wsX7_wayTo := fun w h => (List.mem_cons_of_mem _ (List.mem_append_right _ h))
  have hw1 := hts (Cond.fieldLink RX7 37 "MastPulpitsModel" "steps" "[I") (List.mem_of_getElem? (i := 1) (by decide +kernel))
  have kcm6 : (-6 : Int32).toInt = -6 := by decide
  have kcm1 : (-1 : Int32).toInt = -1 := by decide
  have kc0 : (0 : Int32).toInt = 0 := by decide
  have kc7 : (7 : Int32).toInt = 7 := by decide
  have hf : f_X7_wayTo x1 x2 st = f_X7_wayTo x1 x2 st := rfl
  refine lv_bipush (v := (-6 : Int32)) hx hb dX7_wayTo_0 (by decide) ?_
  refine lv_istore_n (lv' := [(3, .int (-6 : Int32)), (0, .ref h), (1, .int x1), (2, .int x2)]) hx hb dX7_wayTo_2 rfl hl (by decide) rfl (fun ls hl => ?_)
  refine lv_bipush (v := (7 : Int32)) hx hb dX7_wayTo_3 (by decide) ?_
  refine lv_istore (lv' := [(4, .int (7 : Int32)), (3, .int (-6 : Int32)), (0, .ref h), (1, .int x1), (2, .int x2)]) hx hb dX7_wayTo_5 hl (by decide) rfl (fun ls hl => ?_)
  have lp7 : ∀ (K : Int32 → Int32), (∀ (z7_3 : Int32), ∀ (H : Heap) (locs : List Loc) (ls : Array Slot), va_P D vwCl (mW h ad ct st) H → va_D A (mW h ad ct st) → va_S A s.heap H locs → lv_has ls 6 [(3, .int z7_3)] → f_X7_wayTo x1 x2 st = K z7_3 → W p l e R s m args below meth c H locs 0 0 Q (F0 m 49 ls [])) → ∀ (n : Nat) (z7_4 : Int32) (z7_3 : Int32), ∀ (H : Heap) (locs : List Loc) (ls : Array Slot), (Int32.toInt z7_4 < (n : Int)) → (Int32.toInt z7_4 < 8) → va_P D vwCl (mW h ad ct st) H → va_D A (mW h ad ct st) → va_S A s.heap H locs → lv_has ls 6 [(4, .int z7_4), (3, .int z7_3), (0, .ref h), (1, .int x1), (2, .int x2)] → f_X7_wayTo x1 x2 st = f_X7_wayTo_L7 x1 x2 st K n z7_4 z7_3 → W p l e R s m args below meth c H locs 0 0 Q (F0 m 7 ls []) := by
    intro K hk n
    induction n with
    | zero =>
      intro z7_4 z7_3  H locs ls hn7 hu7 hP hD hS hl hf
      refine lv_iload hx hb dX7_wayTo_7 (lv_at hl 0 rfl) ?_
      refine lv_if_lt (tgt := 49) hx hb dX7_wayTo_9 (by decide) (fun c_4 => ?_) (fun c_4 => ?_)
      · have t_4 := ti_lt c_4
        exact hk _ _ _ _  hP hD hS (lv_sub hl [1] rfl) hf
      · have t_4 := ti_nlt c_4
        exfalso
        omega
    | succ n ih =>
      intro z7_4 z7_3  H locs ls hn7 hu7 hP hD hS hl hf
      refine lv_iload hx hb dX7_wayTo_7 (lv_at hl 0 rfl) ?_
      refine lv_if_lt (tgt := 49) hx hb dX7_wayTo_9 (by decide) (fun c_1 => ?_) (fun c_1 => ?_)
      · have hf := kIt hf c_1
        have t_1 := ti_lt c_1
        exact hk _ _ _ _  hP hD hS (lv_sub hl [1] rfl) hf
      · have hf := kIf hf c_1
        have t_1 := ti_nlt c_1
        refine lv_iload_n hx hb dX7_wayTo_12 rfl (lv_at hl 3 rfl) ?_
        refine lv_iload hx hb dX7_wayTo_13 (lv_at hl 0 rfl) ?_
        have hM : kC l D ct z yX7_ahead wsX7_ahead 2 49 [.int x1, .int z7_4] ([]) (some (.int (f_X7_ahead x1 z7_4))) ([]) := k_X7_ahead l D ct z x1 z7_4
        refine kS0 (As := [.int x1, .int z7_4]) (rest := []) ⟨hx, hb, hml, hown, hts⟩ hM gX7_wayTo_X7_ahead kyX7_ahead (by rw [hRf, hRl]; exact ⟨Nat.le_of_ble_eq_true rfl, Nat.le_of_ble_eq_true rfl⟩) hK hP hD hS hA rfl hl.1 rfl (st1 := [.int (f_X7_ahead x1 z7_4)]) rfl rfl ⟨Nat.zero_le _, Nat.zero_le _⟩ dX7_wayTo_15 (fun H locs hP hD hS => ?_)
        refine lv_topi (fun y18 ey18 => ?_)
        have hf := kLt hf ey18
        refine lv_istore (lv' := [(5, .int y18), (4, .int z7_4), (3, .int z7_3), (0, .ref h), (1, .int x1), (2, .int x2)]) hx hb dX7_wayTo_18 hl (by decide) rfl (fun ls hl => ?_)
        refine lv_iload hx hb dX7_wayTo_20 (lv_at hl 0 rfl) ?_
        refine kJn hf (fun j0 => ∀ (z42_s0 : Int32), f_X7_wayTo x1 x2 st = j0 z42_s0 → ∀ (H : Heap) (locs : List Loc) (ls : Array Slot), va_P D vwCl (mW h ad ct st) H → va_D A (mW h ad ct st) → va_S A s.heap H locs → lv_has ls 6 [(4, .int z7_4), (0, .ref h), (1, .int x1), (2, .int x2)] → W p l e R s m args below meth c H locs 0 0 Q (F0 m 42 ls [.int z42_s0])) ?_ ?_
        · intro j0 hj0 z42_s0  hf H locs ls hP hD hS hl
          subst hj0
          refine lv_istore_n (lv' := [(3, .int z42_s0), (4, .int z7_4), (0, .ref h), (1, .int x1), (2, .int x2)]) hx hb dX7_wayTo_42 rfl hl (by decide) rfl (fun ls hl => ?_)
          obtain ⟨y43, ey43⟩ : ∃ y : Int32, y = z7_4 + (-1 : Int32) := ⟨_, rfl⟩
          have hf := kLt hf ey43
          have a43 : Int32.toInt y43 = Int32.toInt z7_4 - 1 := by have := ti_rng z7_4; rw [ey43]; exact ti_add (by rw [kcm1]; rfl) (by omega) (by omega)
          refine lv_iinc (v := y43) (lv' := [(4, .int y43), (3, .int z42_s0), (0, .ref h), (1, .int x1), (2, .int x2)]) hx hb dX7_wayTo_43 hl (k := 1) rfl (by rw [ey43]; rfl) (by decide) rfl (fun ls hl => ?_)
          refine lv_goto (tgt := 7) hx hb dX7_wayTo_46 (by decide) ?_
          exact ih y43 z42_s0 _ _ _ (by first | assumption | exact vin (by omega) (by omega) | omega) (by first | assumption | exact vin (by omega) (by omega) | omega) hP hD hS (lv_sub hl [0, 1, 2, 3, 4] rfl) hf
        · intro j42 hJ42 hf
          refine kJn hf (fun j0 => ∀ (u0 : Unit), f_X7_wayTo x1 x2 st = j0 () → ∀ (H : Heap) (locs : List Loc) (ls : Array Slot), va_P D vwCl (mW h ad ct st) H → va_D A (mW h ad ct st) → va_S A s.heap H locs → lv_has ls 6 [(4, .int z7_4), (3, .int z7_3), (0, .ref h), (1, .int x1), (2, .int x2)] → W p l e R s m args below meth c H locs 0 0 Q (F0 m 41 ls [])) ?_ ?_
          · intro j0 hj0 u0  hf H locs ls hP hD hS hl
            subst hj0
            refine lv_iload_n hx hb dX7_wayTo_41 rfl (lv_at hl 1 rfl) ?_
            exact hJ42 _  hf _ _ _ hP hD hS (lv_sub hl [0, 2, 3, 4] rfl)
          · intro j41 hJ41 hf
            refine lv_if_lt (tgt := 41) hx hb dX7_wayTo_22 (by decide) (fun c_2 => ?_) (fun c_2 => ?_)
            · have hf := kIt hf c_2
              have t_2 := ti_lt c_2
              exact hJ41 ()  hf _ _ _ hP hD hS (lv_sub hl [1, 2, 3, 4, 5] rfl)
            · have hf := kIf hf c_2
              have t_2 := ti_nlt c_2
              refine lv_aload_n hx hb dX7_wayTo_25 rfl (lv_at hl 3 rfl) ?_
              refine va_get (D := D) (cl := vwCl) (ci := 6) (v := .ref (ad 24)) (C := RX7) (T := TX7) (N := 34) hx hb hts inX7 hown hK.1 hP 0 (mO h ad ct st) rfl 24 (by decide) hw1 (fun _ h => h) (mF_24 ad st) dX7_wayTo_26 ?_
              refine lv_iload hx hb dX7_wayTo_29 (lv_at hl 0 rfl) ?_
              refine va_iald hx hb hK.1 hP 10 0 (mA_24 h ad ct st) rfl (ahead_in ey18 (by omega)) dX7_wayTo_31 ?_
              refine lv_iload_n hx hb dX7_wayTo_32 rfl (lv_at hl 5 rfl) ?_
              refine lv_icmp_ne (tgt := 41) hx hb dX7_wayTo_33 (by decide) (fun c_3 => ?_) (fun c_3 => ?_)
              · have hf := kIf hf c_3
                have t_3 := ti_ne c_3
                exact hJ41 ()  hf _ _ _ hP hD hS (lv_sub hl [1, 2, 3, 4, 5] rfl)
              · have hf := kIt hf c_3
                have t_3 := ti_eq c_3
                refine lv_iload hx hb dX7_wayTo_36 (lv_at hl 1 rfl) ?_
                refine lv_goto (tgt := 42) hx hb dX7_wayTo_38 (by decide) ?_
                exact hJ42 _  hf _ _ _ hP hD hS (lv_sub hl [1, 3, 4, 5] rfl)
  refine lp7 _ (fun w7_3  H locs ls  hP hD hS hl hf => ?_) (8) (7 : Int32) (-6 : Int32)  _ _ _ (by first | assumption | exact vin (by omega) (by omega) | omega) (by first | assumption | exact vin (by omega) (by omega) | omega) hP hD hS (lv_sub hl [0, 1, 2, 3, 4] rfl) hf
  refine lv_iload_n hx hb dX7_wayTo_49 rfl (lv_at hl 0 rfl) ?_
  exact kRetI hx hb hr hlk hP hD hS hf.symm rfl hQ dX7_wayTo_50
theorem kyX7_oneStepMore : kY yX7_oneStepMore cX7_oneStepMore 5 (some .boolean) wsX7_oneStepMore wsX7_oneStepMore.tail 1 := ⟨rfl, by decide, by decide, by decide +kernel⟩
set_option maxHeartbeats 4000000 in
set_option maxRecDepth 100000 in
theorem k_X7_oneStepMore (l : Launch) (D : va_G) (ct : ClassId × ClassId × ClassId) (z : Nat × Nat) (h : Nat) (ad : Nat → Nat) (x1 : Int32) (st : Nat → Nat → Int32)  : kC l D ct z yX7_oneStepMore wsX7_oneStepMore 4 95 [.ref h, .int x1] (mW h ad ct st) (some (.int ((f_X7_oneStepMore x1 st).1))) (mW h ad ct ((f_X7_oneStepMore x1 st).2)) := by
  refine kHead (cc := cX7_oneStepMore) (maxL := 5) (ret := (some .boolean)) [(0, .ref h), (1, .int x1)] (by decide) rfl (Nat.le_of_ble_eq_true rfl) rfl ?_
  intro p e s m args below meth c A ls R Q hRf hRl hQ hx hb hr hlk hml hown hts hA hS hK hP hD hl
  have inX7 : ∀ w ∈ wsX70, w ∈ wsX7_oneStepMore := fun w h => (List.mem_cons_of_mem _ (List.mem_append_right _ h))
  have hw1 := hts (Cond.fieldLink RX7 37 "MastPulpitsModel" "steps" "[I") (List.mem_of_getElem? (i := 1) (by decide +kernel))
  have hw2 := hts (Cond.fieldLink RX7 7 "MastPulpitsModel" "ground" "[I") (List.mem_of_getElem? (i := 2) (by decide +kernel))
  have kc0 : (0 : Int32).toInt = 0 := by decide
  have kc1 : (1 : Int32).toInt = 1 := by decide
  have kc64 : (64 : Int32).toInt = 64 := by decide
  have hf : f_X7_oneStepMore x1 st = f_X7_oneStepMore x1 st := rfl
  refine lv_iconst (v := (0 : Int32)) hx hb dX7_oneStepMore_0 (by decide) ?_
  refine lv_istore_n (lv' := [(2, .int (0 : Int32)), (0, .ref h), (1, .int x1)]) hx hb dX7_oneStepMore_1 rfl hl (by decide) rfl (fun ls hl => ?_)
  refine lv_iconst (v := (0 : Int32)) hx hb dX7_oneStepMore_2 (by decide) ?_
  refine lv_istore_n (lv' := [(3, .int (0 : Int32)), (2, .int (0 : Int32)), (0, .ref h), (1, .int x1)]) hx hb dX7_oneStepMore_3 rfl hl (by decide) rfl (fun ls hl => ?_)
  have lp4 : ∀ (K : Int32 → (Nat → Nat → Int32) → (Int32 × (Nat → Nat → Int32))), (∀ (z4_2 : Int32) (z4_st : Nat → Nat → Int32), (z4_2 = 0 ∨ z4_2 = 1) → ∀ (H : Heap) (locs : List Loc) (ls : Array Slot), va_P D vwCl (mW h ad ct z4_st) H → va_D A (mW h ad ct z4_st) → va_S A s.heap H locs → lv_has ls 5 [(2, .int z4_2)] → f_X7_oneStepMore x1 st = K z4_2 z4_st → W p l e R s m args below meth c H locs 0 0 Q (F0 m 88 ls [])) → ∀ (n : Nat) (z4_3 : Int32) (z4_2 : Int32) (z4_st : Nat → Nat → Int32), (z4_2 = 0 ∨ z4_2 = 1) → ∀ (H : Heap) (locs : List Loc) (ls : Array Slot), (64 ≤ Int32.toInt z4_3 + (n : Int)) → (0 ≤ Int32.toInt z4_3) → va_P D vwCl (mW h ad ct z4_st) H → va_D A (mW h ad ct z4_st) → va_S A s.heap H locs → lv_has ls 5 [(3, .int z4_3), (2, .int z4_2), (0, .ref h), (1, .int x1)] → f_X7_oneStepMore x1 st = f_X7_oneStepMore_L4 x1 K n z4_3 z4_2 z4_st → W p l e R s m args below meth c H locs 0 0 Q (F0 m 4 ls []) := by
    intro K hk n
    induction n with
    | zero =>
      intro z4_3 z4_2 z4_st b01_z4_2 H locs ls hn4 hz4 hP hD hS hl hf
      refine lv_iload_n hx hb dX7_oneStepMore_4 rfl (lv_at hl 0 rfl) ?_
      refine lv_bipush (v := (64 : Int32)) hx hb dX7_oneStepMore_5 (by decide) ?_
      refine lv_icmp_ge (tgt := 88) hx hb dX7_oneStepMore_7 (by decide) (fun c_8 => ?_) (fun c_8 => ?_)
      · have t_8 := ti_le c_8
        exact hk _ _ b01_z4_2 _ _ _  hP hD hS (lv_sub hl [1] rfl) hf
      · have t_8 := ti_nle c_8
        exfalso
        omega
    | succ n ih =>
      intro z4_3 z4_2 z4_st b01_z4_2 H locs ls hn4 hz4 hP hD hS hl hf
      refine lv_iload_n hx hb dX7_oneStepMore_4 rfl (lv_at hl 0 rfl) ?_
      refine lv_bipush (v := (64 : Int32)) hx hb dX7_oneStepMore_5 (by decide) ?_
      refine lv_icmp_ge (tgt := 88) hx hb dX7_oneStepMore_7 (by decide) (fun c_1 => ?_) (fun c_1 => ?_)
      · have hf := kIt hf c_1
        have t_1 := ti_le c_1
        exact hk _ _ b01_z4_2 _ _ _  hP hD hS (lv_sub hl [1] rfl) hf
      · have hf := kIf hf c_1
        have t_1 := ti_nle c_1
        refine lv_aload_n hx hb dX7_oneStepMore_10 rfl (lv_at hl 2 rfl) ?_
        refine va_get (D := D) (cl := vwCl) (ci := 6) (v := .ref (ad 24)) (C := RX7) (T := TX7) (N := 34) hx hb hts inX7 hown hK.1 hP 0 (mO h ad ct z4_st) rfl 24 (by decide) hw1 (fun _ h => h) (mF_24 ad z4_st) dX7_oneStepMore_11 ?_
        refine lv_iload_n hx hb dX7_oneStepMore_14 rfl (lv_at hl 0 rfl) ?_
        refine va_iald hx hb hK.1 hP 10 0 (mA_24 h ad ct z4_st) rfl (by first | assumption | exact vin (by omega) (by omega) | omega) dX7_oneStepMore_15 ?_
        refine kJn hf (fun j0 => ∀ (z44_s0 : Int32), (z44_s0 = 0 ∨ z44_s0 = 1) → f_X7_oneStepMore x1 st = j0 z44_s0 → ∀ (H : Heap) (locs : List Loc) (ls : Array Slot), va_P D vwCl (mW h ad ct z4_st) H → va_D A (mW h ad ct z4_st) → va_S A s.heap H locs → lv_has ls 5 [(3, .int z4_3), (2, .int z4_2), (0, .ref h), (1, .int x1)] → W p l e R s m args below meth c H locs 0 0 Q (F0 m 44 ls [.int z44_s0])) ?_ ?_
        · intro j0 hj0 z44_s0 b01_z44_s0 hf H locs ls hP hD hS hl
          subst hj0
          refine lv_istore (lv' := [(4, .int z44_s0), (3, .int z4_3), (2, .int z4_2), (0, .ref h), (1, .int x1)]) hx hb dX7_oneStepMore_44 hl (by decide) rfl (fun ls hl => ?_)
          refine lv_aload_n hx hb dX7_oneStepMore_46 rfl (lv_at hl 3 rfl) ?_
          refine va_get (D := D) (cl := vwCl) (ci := 6) (v := .ref (ad 24)) (C := RX7) (T := TX7) (N := 34) hx hb hts inX7 hown hK.1 hP 0 (mO h ad ct z4_st) rfl 24 (by decide) hw1 (fun _ h => h) (mF_24 ad z4_st) dX7_oneStepMore_47 ?_
          refine lv_iload_n hx hb dX7_oneStepMore_50 rfl (lv_at hl 1 rfl) ?_
          refine lv_iload hx hb dX7_oneStepMore_51 (lv_at hl 0 rfl) ?_
          refine kJn hf (fun j0 => ∀ (z66_s0 : Int32), f_X7_oneStepMore x1 st = j0 z66_s0 → ∀ (H : Heap) (locs : List Loc) (ls : Array Slot), va_P D vwCl (mW h ad ct z4_st) H → va_D A (mW h ad ct z4_st) → va_S A s.heap H locs → lv_has ls 5 [(4, .int z44_s0), (3, .int z4_3), (2, .int z4_2), (0, .ref h), (1, .int x1)] → W p l e R s m args below meth c H locs 0 0 Q (F0 m 66 ls [.int z66_s0, .int z4_3, .ref (ad 24)])) ?_ ?_
          · intro j0 hj0 z66_s0  hf H locs ls hP hD hS hl
            subst hj0
            refine kIast (W1 := mW h ad ct (u2 z4_st 25 ((Int32.toNatClampNeg z4_3)) z66_s0)) hx hb hK hP hD hS 10 (mA_24 h ad ct z4_st) (by first | assumption | exact vin (by omega) (by omega) | omega) (mB_24 h ad ct z4_st _ _) dX7_oneStepMore_66 (fun H locs hP hD hS => ?_)
            refine lv_iload_n hx hb dX7_oneStepMore_67 rfl (lv_at hl 2 rfl) ?_
            refine kJn hf (fun j0 => ∀ (z81_s0 : Int32), (z81_s0 = 0 ∨ z81_s0 = 1) → f_X7_oneStepMore x1 st = j0 z81_s0 → ∀ (H : Heap) (locs : List Loc) (ls : Array Slot), va_P D vwCl (mW h ad ct (u2 z4_st 25 ((Int32.toNatClampNeg z4_3)) z66_s0)) H → va_D A (mW h ad ct (u2 z4_st 25 ((Int32.toNatClampNeg z4_3)) z66_s0)) → va_S A s.heap H locs → lv_has ls 5 [(3, .int z4_3), (0, .ref h), (1, .int x1)] → W p l e R s m args below meth c H locs 0 0 Q (F0 m 81 ls [.int z81_s0])) ?_ ?_
            · intro j0 hj0 z81_s0 b01_z81_s0 hf H locs ls hP hD hS hl
              subst hj0
              refine lv_istore_n (lv' := [(2, .int z81_s0), (3, .int z4_3), (0, .ref h), (1, .int x1)]) hx hb dX7_oneStepMore_81 rfl hl (by decide) rfl (fun ls hl => ?_)
              obtain ⟨y82, ey82⟩ : ∃ y : Int32, y = z4_3 + (1 : Int32) := ⟨_, rfl⟩
              have hf := kLt hf ey82
              have a82 : Int32.toInt y82 = Int32.toInt z4_3 + 1 := by have := ti_rng z4_3; rw [ey82]; exact ti_add (by rw [kc1]) (by omega) (by omega)
              refine lv_iinc (v := y82) (lv' := [(3, .int y82), (2, .int z81_s0), (0, .ref h), (1, .int x1)]) hx hb dX7_oneStepMore_82 hl (k := 1) rfl (by rw [ey82]; rfl) (by decide) rfl (fun ls hl => ?_)
              refine lv_goto (tgt := 4) hx hb dX7_oneStepMore_85 (by decide) ?_
              exact ih y82 z81_s0 (u2 z4_st 25 ((Int32.toNatClampNeg z4_3)) z66_s0) b01_z81_s0 _ _ _ (by first | assumption | exact vin (by omega) (by omega) | omega) (by first | assumption | exact vin (by omega) (by omega) | omega) hP hD hS (lv_sub hl [0, 1, 2, 3] rfl) hf
            · intro j81 hJ81 hf
              refine kJn hf (fun j0 => ∀ (u0 : Unit), f_X7_oneStepMore x1 st = j0 () → ∀ (H : Heap) (locs : List Loc) (ls : Array Slot), va_P D vwCl (mW h ad ct (u2 z4_st 25 ((Int32.toNatClampNeg z4_3)) z66_s0)) H → va_D A (mW h ad ct (u2 z4_st 25 ((Int32.toNatClampNeg z4_3)) z66_s0)) → va_S A s.heap H locs → lv_has ls 5 [(3, .int z4_3), (0, .ref h), (1, .int x1)] → W p l e R s m args below meth c H locs 0 0 Q (F0 m 76 ls [])) ?_ ?_
              · intro j0 hj0 u0  hf H locs ls hP hD hS hl
                subst hj0
                refine lv_iconst (v := (1 : Int32)) hx hb dX7_oneStepMore_76 (by decide) ?_
                refine lv_goto (tgt := 81) hx hb dX7_oneStepMore_77 (by decide) ?_
                exact hJ81 _ (Or.inr rfl)  hf _ _ _ hP hD hS (lv_sub hl [0, 1, 2] rfl)
              · intro j76 hJ76 hf
                refine lv_if_ne (tgt := 76) hx hb dX7_oneStepMore_68 (by decide) (fun c_4 => ?_) (fun c_4 => ?_)
                · have hf := kIf hf c_4
                  have t_4 := ti_ne c_4
                  exact hJ76 ()  hf _ _ _ hP hD hS (lv_sub hl [1, 3, 4] rfl)
                · have hf := kIt hf c_4
                  have t_4 := ti_eq c_4
                  refine lv_iload hx hb dX7_oneStepMore_71 (lv_at hl 0 rfl) ?_
                  refine lv_if_eq (tgt := 80) hx hb dX7_oneStepMore_73 (by decide) (fun c_5 => ?_) (fun c_5 => ?_)
                  · have hf := kIt hf c_5
                    have t_5 := ti_eq c_5
                    refine lv_iconst (v := (0 : Int32)) hx hb dX7_oneStepMore_80 (by decide) ?_
                    exact hJ81 _ (Or.inl rfl)  hf _ _ _ hP hD hS (lv_sub hl [1, 3, 4] rfl)
                  · have hf := kIf hf c_5
                    have t_5 := ti_ne c_5
                    exact hJ76 ()  hf _ _ _ hP hD hS (lv_sub hl [1, 3, 4] rfl)
          · intro j66 hJ66 hf
            refine lv_if_eq (tgt := 60) hx hb dX7_oneStepMore_53 (by decide) (fun c_3 => ?_) (fun c_3 => ?_)
            · have hf := kIt hf c_3
              have t_3 := ti_eq c_3
              refine lv_aload_n hx hb dX7_oneStepMore_60 rfl (lv_at hl 3 rfl) ?_
              refine va_get (D := D) (cl := vwCl) (ci := 6) (v := .ref (ad 24)) (C := RX7) (T := TX7) (N := 34) hx hb hts inX7 hown hK.1 hP 0 (mO h ad ct z4_st) rfl 24 (by decide) hw1 (fun _ h => h) (mF_24 ad z4_st) dX7_oneStepMore_61 ?_
              refine lv_iload_n hx hb dX7_oneStepMore_64 rfl (lv_at hl 1 rfl) ?_
              refine va_iald hx hb hK.1 hP 10 0 (mA_24 h ad ct z4_st) rfl (by first | assumption | exact vin (by omega) (by omega) | omega) dX7_oneStepMore_65 ?_
              exact hJ66 _  hf _ _ _ hP hD hS (lv_sub hl [0, 1, 2, 3, 4] rfl)
            · have hf := kIf hf c_3
              have t_3 := ti_ne c_3
              refine lv_iload_n hx hb dX7_oneStepMore_56 rfl (lv_at hl 4 rfl) ?_
              refine lv_goto (tgt := 66) hx hb dX7_oneStepMore_57 (by decide) ?_
              exact hJ66 _  hf _ _ _ hP hD hS (lv_sub hl [0, 1, 2, 3, 4] rfl)
        · intro j44 hJ44 hf
          refine kJn hf (fun j0 => ∀ (u0 : Unit), f_X7_oneStepMore x1 st = j0 () → ∀ (H : Heap) (locs : List Loc) (ls : Array Slot), va_P D vwCl (mW h ad ct z4_st) H → va_D A (mW h ad ct z4_st) → va_S A s.heap H locs → lv_has ls 5 [(3, .int z4_3), (2, .int z4_2), (0, .ref h), (1, .int x1)] → W p l e R s m args below meth c H locs 0 0 Q (F0 m 43 ls [])) ?_ ?_
          · intro j0 hj0 u0  hf H locs ls hP hD hS hl
            subst hj0
            refine lv_iconst (v := (0 : Int32)) hx hb dX7_oneStepMore_43 (by decide) ?_
            exact hJ44 _ (Or.inl rfl)  hf _ _ _ hP hD hS (lv_sub hl [0, 1, 2, 3] rfl)
          · intro j43 hJ43 hf
            refine lv_if_ge (tgt := 43) hx hb dX7_oneStepMore_16 (by decide) (fun c_2 => ?_) (fun c_2 => ?_)
            · have hf := kIt hf c_2
              have t_2 := ti_le c_2
              exact hJ43 ()  hf _ _ _ hP hD hS (lv_sub hl [0, 1, 2, 3] rfl)
            · have hf := kIf hf c_2
              have t_2 := ti_nle c_2
              refine lv_aload_n hx hb dX7_oneStepMore_19 rfl (lv_at hl 2 rfl) ?_
              refine va_get (D := D) (cl := vwCl) (ci := 6) (v := .ref (ad 0)) (C := RX7) (T := TX7) (N := 34) hx hb hts inX7 hown hK.1 hP 0 (mO h ad ct z4_st) rfl 0 (by decide) hw2 (fun _ h => h) (mF_0 ad z4_st) dX7_oneStepMore_20 ?_
              refine lv_iload_n hx hb dX7_oneStepMore_23 rfl (lv_at hl 0 rfl) ?_
              refine va_iald hx hb hK.1 hP 1 0 (mA_0 h ad ct z4_st) rfl (by first | assumption | exact vin (by omega) (by omega) | omega) dX7_oneStepMore_24 ?_
              refine lv_if_ne (tgt := 43) hx hb dX7_oneStepMore_25 (by decide) (fun c_6 => ?_) (fun c_6 => ?_)
              · have hf := kIf hf c_6
                have t_6 := ti_ne c_6
                exact hJ43 ()  hf _ _ _ hP hD hS (lv_sub hl [0, 1, 2, 3] rfl)
              · have hf := kIt hf c_6
                have t_6 := ti_eq c_6
                refine lv_aload_n hx hb dX7_oneStepMore_28 rfl (lv_at hl 2 rfl) ?_
                refine lv_iload_n hx hb dX7_oneStepMore_29 rfl (lv_at hl 0 rfl) ?_
                refine lv_iload_n hx hb dX7_oneStepMore_30 rfl (lv_at hl 3 rfl) ?_
                refine lv_iconst (v := (1 : Int32)) hx hb dX7_oneStepMore_31 (by decide) ?_
                refine lv_isub hx hb dX7_oneStepMore_32 ?_
                have hM : kC l D ct z yX7_wayTo wsX7_wayTo 3 70 [.ref h, .int z4_3, .int (x1 - (1 : Int32))] (mW h ad ct z4_st) (some (.int (f_X7_wayTo z4_3 (x1 - (1 : Int32)) z4_st))) (mW h ad ct z4_st) := k_X7_wayTo l D ct z h ad z4_3 (x1 - (1 : Int32)) z4_st
                refine kV1 (As := [.int z4_3, .int (x1 - (1 : Int32))]) (rest := []) ⟨hx, hb, hml, hown, hts⟩ hM gX7_oneStepMore_X7_wayTo kyX7_wayTo (by rw [hRf, hRl]; exact ⟨Nat.le_of_ble_eq_true rfl, Nat.le_of_ble_eq_true rfl⟩) hK hP hD hS hA 0 (mO h ad ct z4_st) rfl rfl rfl hl.1 rfl (st1 := [.int (f_X7_wayTo z4_3 (x1 - (1 : Int32)) z4_st)]) rfl rfl ⟨Nat.zero_le _, Nat.zero_le _⟩ dX7_oneStepMore_33 (fun H locs hP hD hS => ?_)
                refine lv_if_lt (tgt := 43) hx hb dX7_oneStepMore_36 (by decide) (fun c_7 => ?_) (fun c_7 => ?_)
                · have hf := kIt hf c_7
                  have t_7 := ti_lt c_7
                  exact hJ43 ()  hf _ _ _ hP hD hS (lv_sub hl [0, 1, 2, 3] rfl)
                · have hf := kIf hf c_7
                  have t_7 := ti_nlt c_7
                  refine lv_iconst (v := (1 : Int32)) hx hb dX7_oneStepMore_39 (by decide) ?_
                  refine lv_goto (tgt := 44) hx hb dX7_oneStepMore_40 (by decide) ?_
                  exact hJ44 _ (Or.inr rfl)  hf _ _ _ hP hD hS (lv_sub hl [0, 1, 2, 3] rfl)
  refine lp4 _ (fun w4_2 w4_st b01_w4_2 H locs ls  hP hD hS hl hf => ?_) (64) (0 : Int32) (0 : Int32) st (Or.inl rfl) _ _ _ (by first | assumption | exact vin (by omega) (by omega) | omega) (by first | assumption | exact vin (by omega) (by omega) | omega) hP hD hS (lv_sub hl [0, 1, 2, 3] rfl) hf
  refine lv_iload_n hx hb dX7_oneStepMore_88 rfl (lv_at hl 0 rfl) ?_
  exact kRetZ hx hb hr hlk hP hD hS b01_w4_2 (kfst hf) ((congrArg (fun q => mW h ad ct q.2) hf).symm) hQ dX7_oneStepMore_89
theorem kyX7_course : kY yX7_course cX7_course 6 (some .int) wsX7_course wsX7_course.tail 3 := ⟨rfl, by decide, by decide, by decide +kernel⟩
set_option maxHeartbeats 4000000 in
set_option maxRecDepth 100000 in
theorem k_X7_course (l : Launch) (D : va_G) (ct : ClassId × ClassId × ClassId) (z : Nat × Nat) (h : Nat) (ad : Nat → Nat) (x1 : Int32) (x2 : Int32) (x3 : Int32) (st : Nat → Nat → Int32)  : kC l D ct z yX7_course wsX7_course 5 119 [.ref h, .int x1, .int x2, .int x3] (mW h ad ct st) (some (.int ((f_X7_course x1 x2 x3 st).1))) (mW h ad ct ((f_X7_course x1 x2 x3 st).2)) := by
  refine kHead (cc := cX7_course) (maxL := 6) (ret := (some .int)) [(0, .ref h), (1, .int x1), (2, .int x2), (3, .int x3)] (by decide) rfl (Nat.le_of_ble_eq_true rfl) rfl ?_
  intro p e s m args below meth c A ls R Q hRf hRl hQ hx hb hr hlk hml hown hts hA hS hK hP hD hl
  have inX7 : ∀ w ∈ wsX70, w ∈ wsX7_course := fun w h => (List.mem_cons_of_mem _ (List.mem_append_right _ h))
  have hw1 := hts (Cond.fieldLink RX7 37 "MastPulpitsModel" "steps" "[I") (List.mem_of_getElem? (i := 1) (by decide +kernel))
  have hw2 := hts (Cond.fieldLink RX7 7 "MastPulpitsModel" "ground" "[I") (List.mem_of_getElem? (i := 2) (by decide +kernel))
  have kcm6 : (-6 : Int32).toInt = -6 := by decide
  have kcm2 : (-2 : Int32).toInt = -2 := by decide
  have kcm1 : (-1 : Int32).toInt = -1 := by decide
  have kc0 : (0 : Int32).toInt = 0 := by decide
  have kc1 : (1 : Int32).toInt = 1 := by decide
  have kc64 : (64 : Int32).toInt = 64 := by decide
  have kl0 : (0 : Int64).toInt = 0 := by decide
  have kl1 : (1 : Int64).toInt = 1 := by decide
  have hf : f_X7_course x1 x2 x3 st = f_X7_course x1 x2 x3 st := rfl
  refine lv_iload_n hx hb dX7_course_0 rfl (lv_at hl 1 rfl) ?_
  have hM : kC l D ct z yX7_isCell wsX7_isCell 1 25 [.int x1] ([]) (some (.int (f_X7_isCell x1))) ([]) := k_X7_isCell l D ct z x1
  refine kS0 (As := [.int x1]) (rest := []) ⟨hx, hb, hml, hown, hts⟩ hM gX7_course_X7_isCell kyX7_isCell (by rw [hRf, hRl]; exact ⟨Nat.le_of_ble_eq_true rfl, Nat.le_of_ble_eq_true rfl⟩) hK hP hD hS hA rfl hl.1 rfl (st1 := [.int (f_X7_isCell x1)]) rfl rfl ⟨Nat.zero_le _, Nat.zero_le _⟩ dX7_course_1 (fun H locs hP hD hS => ?_)
  refine lv_if_eq (tgt := 14) hx hb dX7_course_4 (by decide) (fun c_1 => ?_) (fun c_1 => ?_)
  · have hf := kIt hf c_1
    have t_1 := ti_eq c_1
    refine lv_iconst (v := (-1 : Int32)) hx hb dX7_course_14 (by decide) ?_
    exact kRetI hx hb hr hlk hP hD hS (kfst hf) ((congrArg (fun q => mW h ad ct q.2) hf).symm) hQ dX7_course_15
  · have hf := kIf hf c_1
    have t_1 := ti_ne c_1; have w_1 := mcell_nz c_1
    refine lv_iload_n hx hb dX7_course_7 rfl (lv_at hl 2 rfl) ?_
    have hM : kC l D ct z yX7_isCell wsX7_isCell 1 25 [.int x2] ([]) (some (.int (f_X7_isCell x2))) ([]) := k_X7_isCell l D ct z x2
    refine kS0 (As := [.int x2]) (rest := []) ⟨hx, hb, hml, hown, hts⟩ hM gX7_course_X7_isCell kyX7_isCell (by rw [hRf, hRl]; exact ⟨Nat.le_of_ble_eq_true rfl, Nat.le_of_ble_eq_true rfl⟩) hK hP hD hS hA rfl hl.1 rfl (st1 := [.int (f_X7_isCell x2)]) rfl rfl ⟨Nat.zero_le _, Nat.zero_le _⟩ dX7_course_8 (fun H locs hP hD hS => ?_)
    refine lv_if_ne (tgt := 16) hx hb dX7_course_11 (by decide) (fun c_2 => ?_) (fun c_2 => ?_)
    · have hf := kIf hf c_2
      have t_2 := ti_ne c_2; have w_2 := mcell_nz c_2
      refine lv_iload_n hx hb dX7_course_16 rfl (lv_at hl 3 rfl) ?_
      refine lv_i2l (v := (Int32.toInt64 x3)) hx hb dX7_course_17 rfl ?_
      refine lv_lconst (v := (0 : Int64)) hx hb dX7_course_18 (by decide) ?_
      refine lv_lconst (v := (1 : Int64)) hx hb dX7_course_19 (by decide) ?_
      have hM : kC l D ct z yX7_in wsX7_in 0 0 [.long (Int32.toInt64 x3), .long (0 : Int64), .long (1 : Int64)] ([]) (some (.int (f_X7_in (Int32.toInt64 x3) (0 : Int64) (1 : Int64)))) ([]) := k_X7_in l D ct z (Int32.toInt64 x3) (0 : Int64) (1 : Int64)
      refine kS0 (As := [.long (Int32.toInt64 x3), .long (0 : Int64), .long (1 : Int64)]) (rest := []) ⟨hx, hb, hml, hown, hts⟩ hM gX7_course_X7_in kyX7_in (by rw [hRf, hRl]; exact ⟨Nat.le_of_ble_eq_true rfl, Nat.le_of_ble_eq_true rfl⟩) hK hP hD hS hA rfl hl.1 rfl (st1 := [.int (f_X7_in (Int32.toInt64 x3) (0 : Int64) (1 : Int64))]) rfl rfl ⟨Nat.zero_le _, Nat.zero_le _⟩ dX7_course_20 (fun H locs hP hD hS => ?_)
      refine lv_if_ne (tgt := 29) hx hb dX7_course_23 (by decide) (fun c_3 => ?_) (fun c_3 => ?_)
      · have hf := kIf hf c_3
        have t_3 := ti_ne c_3; have w_3 := in_nz c_3
        refine lv_iconst (v := (0 : Int32)) hx hb dX7_course_29 (by decide) ?_
        refine lv_istore (lv' := [(4, .int (0 : Int32)), (0, .ref h), (1, .int x1), (2, .int x2), (3, .int x3)]) hx hb dX7_course_30 hl (by decide) rfl (fun ls hl => ?_)
        have lp32 : ∀ (K : (Nat → Nat → Int32) → (Int32 × (Nat → Nat → Int32))), (∀ (z32_st : Nat → Nat → Int32), ∀ (H : Heap) (locs : List Loc) (ls : Array Slot), va_P D vwCl (mW h ad ct z32_st) H → va_D A (mW h ad ct z32_st) → va_S A s.heap H locs → lv_has ls 6 [(0, .ref h), (1, .int x1), (3, .int x3)] → f_X7_course x1 x2 x3 st = K z32_st → W p l e R s m args below meth c H locs 0 0 Q (F0 m 74 ls [])) → ∀ (n : Nat) (z32_4 : Int32) (z32_st : Nat → Nat → Int32), ∀ (H : Heap) (locs : List Loc) (ls : Array Slot), (64 ≤ Int32.toInt z32_4 + (n : Int)) → (0 ≤ Int32.toInt z32_4) → va_P D vwCl (mW h ad ct z32_st) H → va_D A (mW h ad ct z32_st) → va_S A s.heap H locs → lv_has ls 6 [(4, .int z32_4), (0, .ref h), (1, .int x1), (2, .int x2), (3, .int x3)] → f_X7_course x1 x2 x3 st = f_X7_course_L32 x2 K n z32_4 z32_st → W p l e R s m args below meth c H locs 0 0 Q (F0 m 32 ls []) := by
          intro K hk n
          induction n with
          | zero =>
            intro z32_4 z32_st  H locs ls hn32 hz32 hP hD hS hl hf
            refine lv_iload hx hb dX7_course_32 (lv_at hl 0 rfl) ?_
            refine lv_bipush (v := (64 : Int32)) hx hb dX7_course_34 (by decide) ?_
            refine lv_icmp_ge (tgt := 74) hx hb dX7_course_36 (by decide) (fun c_7 => ?_) (fun c_7 => ?_)
            · have t_7 := ti_le c_7
              exact hk _ _ _ _  hP hD hS (lv_sub hl [1, 2, 4] rfl) hf
            · have t_7 := ti_nle c_7
              exfalso
              omega
          | succ n ih =>
            intro z32_4 z32_st  H locs ls hn32 hz32 hP hD hS hl hf
            refine lv_iload hx hb dX7_course_32 (lv_at hl 0 rfl) ?_
            refine lv_bipush (v := (64 : Int32)) hx hb dX7_course_34 (by decide) ?_
            refine lv_icmp_ge (tgt := 74) hx hb dX7_course_36 (by decide) (fun c_4 => ?_) (fun c_4 => ?_)
            · have hf := kIt hf c_4
              have t_4 := ti_le c_4
              exact hk _ _ _ _  hP hD hS (lv_sub hl [1, 2, 4] rfl) hf
            · have hf := kIf hf c_4
              have t_4 := ti_nle c_4
              refine lv_aload_n hx hb dX7_course_39 rfl (lv_at hl 1 rfl) ?_
              refine va_get (D := D) (cl := vwCl) (ci := 6) (v := .ref (ad 24)) (C := RX7) (T := TX7) (N := 34) hx hb hts inX7 hown hK.1 hP 0 (mO h ad ct z32_st) rfl 24 (by decide) hw1 (fun _ h => h) (mF_24 ad z32_st) dX7_course_40 ?_
              refine lv_iload hx hb dX7_course_43 (lv_at hl 0 rfl) ?_
              refine lv_iload hx hb dX7_course_45 (lv_at hl 0 rfl) ?_
              refine lv_iload_n hx hb dX7_course_47 rfl (lv_at hl 3 rfl) ?_
              refine kJn hf (fun j0 => ∀ (z67_s0 : Int32), f_X7_course x1 x2 x3 st = j0 z67_s0 → ∀ (H : Heap) (locs : List Loc) (ls : Array Slot), va_P D vwCl (mW h ad ct z32_st) H → va_D A (mW h ad ct z32_st) → va_S A s.heap H locs → lv_has ls 6 [(4, .int z32_4), (0, .ref h), (1, .int x1), (2, .int x2), (3, .int x3)] → W p l e R s m args below meth c H locs 0 0 Q (F0 m 67 ls [.int z67_s0, .int z32_4, .ref (ad 24)])) ?_ ?_
              · intro j0 hj0 z67_s0  hf H locs ls hP hD hS hl
                subst hj0
                refine kIast (W1 := mW h ad ct (u2 z32_st 25 ((Int32.toNatClampNeg z32_4)) z67_s0)) hx hb hK hP hD hS 10 (mA_24 h ad ct z32_st) (by first | assumption | exact vin (by omega) (by omega) | omega) (mB_24 h ad ct z32_st _ _) dX7_course_67 (fun H locs hP hD hS => ?_)
                obtain ⟨y68, ey68⟩ : ∃ y : Int32, y = z32_4 + (1 : Int32) := ⟨_, rfl⟩
                have hf := kLt hf ey68
                have a68 : Int32.toInt y68 = Int32.toInt z32_4 + 1 := by have := ti_rng z32_4; rw [ey68]; exact ti_add (by rw [kc1]) (by omega) (by omega)
                refine lv_iinc (v := y68) (lv' := [(4, .int y68), (0, .ref h), (1, .int x1), (2, .int x2), (3, .int x3)]) hx hb dX7_course_68 hl (k := 0) rfl (by rw [ey68]; rfl) (by decide) rfl (fun ls hl => ?_)
                refine lv_goto (tgt := 32) hx hb dX7_course_71 (by decide) ?_
                exact ih y68 (u2 z32_st 25 ((Int32.toNatClampNeg z32_4)) z67_s0) _ _ _ (by first | assumption | exact vin (by omega) (by omega) | omega) (by first | assumption | exact vin (by omega) (by omega) | omega) hP hD hS (lv_sub hl [0, 1, 2, 3, 4] rfl) hf
              · intro j67 hJ67 hf
                refine kJn hf (fun j0 => ∀ (u0 : Unit), f_X7_course x1 x2 x3 st = j0 () → ∀ (H : Heap) (locs : List Loc) (ls : Array Slot), va_P D vwCl (mW h ad ct z32_st) H → va_D A (mW h ad ct z32_st) → va_S A s.heap H locs → lv_has ls 6 [(4, .int z32_4), (0, .ref h), (1, .int x1), (2, .int x2), (3, .int x3)] → W p l e R s m args below meth c H locs 0 0 Q (F0 m 65 ls [.int z32_4, .ref (ad 24)])) ?_ ?_
                · intro j0 hj0 u0  hf H locs ls hP hD hS hl
                  subst hj0
                  refine lv_bipush (v := (-6 : Int32)) hx hb dX7_course_65 (by decide) ?_
                  exact hJ67 _  hf _ _ _ hP hD hS (lv_sub hl [0, 1, 2, 3, 4] rfl)
                · intro j65 hJ65 hf
                  refine lv_icmp_ne (tgt := 65) hx hb dX7_course_48 (by decide) (fun c_5 => ?_) (fun c_5 => ?_)
                  · have hf := kIf hf c_5
                    have t_5 := ti_ne c_5
                    exact hJ65 ()  hf _ _ _ hP hD hS (lv_sub hl [0, 1, 2, 3, 4] rfl)
                  · have hf := kIt hf c_5
                    have t_5 := ti_eq c_5
                    refine lv_aload_n hx hb dX7_course_51 rfl (lv_at hl 1 rfl) ?_
                    refine va_get (D := D) (cl := vwCl) (ci := 6) (v := .ref (ad 0)) (C := RX7) (T := TX7) (N := 34) hx hb hts inX7 hown hK.1 hP 0 (mO h ad ct z32_st) rfl 0 (by decide) hw2 (fun _ h => h) (mF_0 ad z32_st) dX7_course_52 ?_
                    refine lv_iload hx hb dX7_course_55 (lv_at hl 0 rfl) ?_
                    refine va_iald hx hb hK.1 hP 1 0 (mA_0 h ad ct z32_st) rfl (by first | assumption | exact vin (by omega) (by omega) | omega) dX7_course_57 ?_
                    refine lv_if_ne (tgt := 65) hx hb dX7_course_58 (by decide) (fun c_6 => ?_) (fun c_6 => ?_)
                    · have hf := kIf hf c_6
                      have t_6 := ti_ne c_6
                      exact hJ65 ()  hf _ _ _ hP hD hS (lv_sub hl [0, 1, 2, 3, 4] rfl)
                    · have hf := kIt hf c_6
                      have t_6 := ti_eq c_6
                      refine lv_iconst (v := (0 : Int32)) hx hb dX7_course_61 (by decide) ?_
                      refine lv_goto (tgt := 67) hx hb dX7_course_62 (by decide) ?_
                      exact hJ67 _  hf _ _ _ hP hD hS (lv_sub hl [0, 1, 2, 3, 4] rfl)
        refine lp32 _ (fun w32_st  H locs ls  hP hD hS hl hf => ?_) (64) (0 : Int32) st  _ _ _ (by first | assumption | exact vin (by omega) (by omega) | omega) (by first | assumption | exact vin (by omega) (by omega) | omega) hP hD hS (lv_sub hl [0, 1, 2, 3, 4] rfl) hf
        refine lv_iconst (v := (1 : Int32)) hx hb dX7_course_74 (by decide) ?_
        refine lv_istore (lv' := [(4, .int (1 : Int32)), (0, .ref h), (1, .int x1), (3, .int x3)]) hx hb dX7_course_75 hl (by decide) rfl (fun ls hl => ?_)
        refine lv_iconst (v := (1 : Int32)) hx hb dX7_course_77 (by decide) ?_
        refine lv_istore (lv' := [(5, .int (1 : Int32)), (4, .int (1 : Int32)), (0, .ref h), (1, .int x1), (3, .int x3)]) hx hb dX7_course_78 hl (by decide) rfl (fun ls hl => ?_)
        have lp80 : ∀ (K : (Nat → Nat → Int32) → (Int32 × (Nat → Nat → Int32))), (∀ (z80_st : Nat → Nat → Int32), ∀ (H : Heap) (locs : List Loc) (ls : Array Slot), va_P D vwCl (mW h ad ct z80_st) H → va_D A (mW h ad ct z80_st) → va_S A s.heap H locs → lv_has ls 6 [(0, .ref h), (1, .int x1), (3, .int x3)] → f_X7_course x1 x2 x3 st = K z80_st → W p l e R s m args below meth c H locs 0 0 Q (F0 m 99 ls [])) → ∀ (n : Nat) (z80_5 : Int32) (z80_4 : Int32) (z80_st : Nat → Nat → Int32), ∀ (H : Heap) (locs : List Loc) (ls : Array Slot), (z80_4 = 0 ∨ ucnt z80_st 64 < n) → (1 ≤ Int32.toInt z80_5 ∧ Int32.toInt z80_5 + (n : Int) ≤ 100) → va_P D vwCl (mW h ad ct z80_st) H → va_D A (mW h ad ct z80_st) → va_S A s.heap H locs → lv_has ls 6 [(5, .int z80_5), (4, .int z80_4), (0, .ref h), (1, .int x1), (3, .int x3)] → f_X7_course x1 x2 x3 st = f_X7_course_L80  K n z80_5 z80_4 z80_st → W p l e R s m args below meth c H locs 0 0 Q (F0 m 80 ls []) := by
          intro K hk n
          induction n with
          | zero =>
            intro z80_5 z80_4 z80_st  H locs ls hn80 hm80 hP hD hS hl hf
            refine lv_iload hx hb dX7_course_80 (lv_at hl 1 rfl) ?_
            refine lv_if_eq (tgt := 99) hx hb dX7_course_82 (by decide) (fun c_9 => ?_) (fun c_9 => ?_)
            · have t_9 := ti_eq c_9
              exact hk _ _ _ _  hP hD hS (lv_sub hl [2, 3, 4] rfl) hf
            · have t_9 := ti_ne c_9
              exfalso
              rcases hn80 with q | q
              · exact absurd q (by assumption)
              · exact absurd q (Nat.not_lt_zero _)
          | succ n ih =>
            intro z80_5 z80_4 z80_st  H locs ls hn80 hm80 hP hD hS hl hf
            refine lv_iload hx hb dX7_course_80 (lv_at hl 1 rfl) ?_
            refine lv_if_eq (tgt := 99) hx hb dX7_course_82 (by decide) (fun c_8 => ?_) (fun c_8 => ?_)
            · have hf := kIt hf c_8
              have t_8 := ti_eq c_8
              exact hk _ _ _ _  hP hD hS (lv_sub hl [2, 3, 4] rfl) hf
            · have hf := kIf hf c_8
              have t_8 := ti_ne c_8
              refine lv_aload_n hx hb dX7_course_85 rfl (lv_at hl 2 rfl) ?_
              refine lv_iload hx hb dX7_course_86 (lv_at hl 0 rfl) ?_
              obtain ⟨q88, eq88⟩ : ∃ y, y = f_X7_oneStepMore z80_5 z80_st := ⟨_, rfl⟩
              have hf := kLt hf eq88
              have g88 := osm_post z80_5 z80_st (by omega)
              rw [← eq88] at g88
              have hM : kC l D ct z yX7_oneStepMore wsX7_oneStepMore 4 95 [.ref h, .int z80_5] (mW h ad ct z80_st) (some (.int q88.1)) (mW h ad ct q88.2) := by rw [eq88]; exact k_X7_oneStepMore l D ct z h ad z80_5 z80_st
              refine kV1 (As := [.int z80_5]) (rest := []) ⟨hx, hb, hml, hown, hts⟩ hM gX7_course_X7_oneStepMore kyX7_oneStepMore (by rw [hRf, hRl]; exact ⟨Nat.le_of_ble_eq_true rfl, Nat.le_of_ble_eq_true rfl⟩) hK hP hD hS hA 0 (mO h ad ct z80_st) rfl rfl rfl hl.1 rfl (st1 := [.int q88.1]) rfl rfl ⟨Nat.zero_le _, Nat.zero_le _⟩ dX7_course_88 (fun H locs hP hD hS => ?_)
              refine lv_istore (lv' := [(4, .int q88.1), (5, .int z80_5), (0, .ref h), (1, .int x1), (3, .int x3)]) hx hb dX7_course_91 hl (by decide) rfl (fun ls hl => ?_)
              obtain ⟨y93, ey93⟩ : ∃ y : Int32, y = z80_5 + (1 : Int32) := ⟨_, rfl⟩
              have hf := kLt hf ey93
              have a93 : Int32.toInt y93 = Int32.toInt z80_5 + 1 := by rw [ey93]; exact ti_add (by rw [kc1]) (by omega) (by omega)
              refine lv_iinc (v := y93) (lv' := [(5, .int y93), (4, .int q88.1), (0, .ref h), (1, .int x1), (3, .int x3)]) hx hb dX7_course_93 hl (k := 1) rfl (by rw [ey93]; rfl) (by decide) rfl (fun ls hl => ?_)
              refine lv_goto (tgt := 80) hx hb dX7_course_96 (by decide) ?_
              exact ih y93 q88.1 q88.2 _ _ _ (by rcases g88 with q | q; exact Or.inl q; rcases hn80 with w | w; exact absurd w (by assumption); exact Or.inr (by omega)) (by first | assumption | exact vin (by omega) (by omega) | omega) hP hD hS (lv_sub hl [0, 1, 2, 3, 4] rfl) hf
        refine lp80 _ (fun w80_st  H locs ls  hP hD hS hl hf => ?_) (65) (1 : Int32) (1 : Int32) w32_st  _ _ _ (Or.inr (Nat.lt_succ_of_le (ucnt_le _ 64))) (by first | assumption | exact vin (by omega) (by omega) | omega) hP hD hS (lv_sub hl [0, 1, 2, 3, 4] rfl) hf
        refine lv_iload_n hx hb dX7_course_99 rfl (lv_at hl 2 rfl) ?_
        refine lv_if_ne (tgt := 112) hx hb dX7_course_100 (by decide) (fun c_10 => ?_) (fun c_10 => ?_)
        · have hf := kIf hf c_10
          have t_10 := ti_ne c_10
          refine lv_aload_n hx hb dX7_course_112 rfl (lv_at hl 0 rfl) ?_
          refine va_get (D := D) (cl := vwCl) (ci := 6) (v := .ref (ad 24)) (C := RX7) (T := TX7) (N := 34) hx hb hts inX7 hown hK.1 hP 0 (mO h ad ct w80_st) rfl 24 (by decide) hw1 (fun _ h => h) (mF_24 ad w80_st) dX7_course_113 ?_
          refine lv_iload_n hx hb dX7_course_116 rfl (lv_at hl 1 rfl) ?_
          refine va_iald hx hb hK.1 hP 10 0 (mA_24 h ad ct w80_st) rfl (by first | assumption | exact vin (by omega) (by omega) | omega) dX7_course_117 ?_
          refine lv_iconst (v := (1 : Int32)) hx hb dX7_course_118 (by decide) ?_
          refine lv_icmp_ge (tgt := 127) hx hb dX7_course_119 (by decide) (fun c_11 => ?_) (fun c_11 => ?_)
          · have hf := kIt hf c_11
            have t_11 := ti_le c_11
            refine lv_aload_n hx hb dX7_course_127 rfl (lv_at hl 0 rfl) ?_
            refine lv_iload_n hx hb dX7_course_128 rfl (lv_at hl 1 rfl) ?_
            refine lv_aload_n hx hb dX7_course_129 rfl (lv_at hl 0 rfl) ?_
            refine va_get (D := D) (cl := vwCl) (ci := 6) (v := .ref (ad 24)) (C := RX7) (T := TX7) (N := 34) hx hb hts inX7 hown hK.1 hP 0 (mO h ad ct w80_st) rfl 24 (by decide) hw1 (fun _ h => h) (mF_24 ad w80_st) dX7_course_130 ?_
            refine lv_iload_n hx hb dX7_course_133 rfl (lv_at hl 1 rfl) ?_
            refine va_iald hx hb hK.1 hP 10 0 (mA_24 h ad ct w80_st) rfl (by first | assumption | exact vin (by omega) (by omega) | omega) dX7_course_134 ?_
            refine lv_iconst (v := (1 : Int32)) hx hb dX7_course_135 (by decide) ?_
            refine lv_isub hx hb dX7_course_136 ?_
            have hM : kC l D ct z yX7_wayTo wsX7_wayTo 3 70 [.ref h, .int x1, .int ((w80_st 25 (Int32.toNatClampNeg x1)) - (1 : Int32))] (mW h ad ct w80_st) (some (.int (f_X7_wayTo x1 ((w80_st 25 (Int32.toNatClampNeg x1)) - (1 : Int32)) w80_st))) (mW h ad ct w80_st) := k_X7_wayTo l D ct z h ad x1 ((w80_st 25 (Int32.toNatClampNeg x1)) - (1 : Int32)) w80_st
            refine kV1 (As := [.int x1, .int ((w80_st 25 (Int32.toNatClampNeg x1)) - (1 : Int32))]) (rest := []) ⟨hx, hb, hml, hown, hts⟩ hM gX7_course_X7_wayTo kyX7_wayTo (by rw [hRf, hRl]; exact ⟨Nat.le_of_ble_eq_true rfl, Nat.le_of_ble_eq_true rfl⟩) hK hP hD hS hA 0 (mO h ad ct w80_st) rfl rfl rfl hl.1 rfl (st1 := [.int (f_X7_wayTo x1 ((w80_st 25 (Int32.toNatClampNeg x1)) - (1 : Int32)) w80_st)]) rfl rfl ⟨Nat.zero_le _, Nat.zero_le _⟩ dX7_course_137 (fun H locs hP hD hS => ?_)
            exact kRetI hx hb hr hlk hP hD hS (kfst hf) ((congrArg (fun q => mW h ad ct q.2) hf).symm) hQ dX7_course_140
          · have hf := kIf hf c_11
            have t_11 := ti_nle c_11
            refine lv_bipush (v := (-6 : Int32)) hx hb dX7_course_122 (by decide) ?_
            refine lv_goto (tgt := 140) hx hb dX7_course_124 (by decide) ?_
            exact kRetI hx hb hr hlk hP hD hS (kfst hf) ((congrArg (fun q => mW h ad ct q.2) hf).symm) hQ dX7_course_140
        · have hf := kIt hf c_10
          have t_10 := ti_eq c_10
          refine lv_aload_n hx hb dX7_course_103 rfl (lv_at hl 0 rfl) ?_
          refine va_get (D := D) (cl := vwCl) (ci := 6) (v := .ref (ad 24)) (C := RX7) (T := TX7) (N := 34) hx hb hts inX7 hown hK.1 hP 0 (mO h ad ct w80_st) rfl 24 (by decide) hw1 (fun _ h => h) (mF_24 ad w80_st) dX7_course_104 ?_
          refine lv_iload_n hx hb dX7_course_107 rfl (lv_at hl 1 rfl) ?_
          refine va_iald hx hb hK.1 hP 10 0 (mA_24 h ad ct w80_st) rfl (by first | assumption | exact vin (by omega) (by omega) | omega) dX7_course_108 ?_
          refine lv_goto (tgt := 140) hx hb dX7_course_109 (by decide) ?_
          exact kRetI hx hb hr hlk hP hD hS (kfst hf) ((congrArg (fun q => mW h ad ct q.2) hf).symm) hQ dX7_course_140
      · have hf := kIt hf c_3
        have t_3 := ti_eq c_3
        refine lv_bipush (v := (-2 : Int32)) hx hb dX7_course_26 (by decide) ?_
        exact kRetI hx hb hr hlk hP hD hS (kfst hf) ((congrArg (fun q => mW h ad ct q.2) hf).symm) hQ dX7_course_28
    · have hf := kIt hf c_2
      have t_2 := ti_eq c_2
      refine lv_iconst (v := (-1 : Int32)) hx hb dX7_course_14 (by decide) ?_
      exact kRetI hx hb hr hlk hP hD hS (kfst hf) ((congrArg (fun q => mW h ad ct q.2) hf).symm) hQ dX7_course_15
theorem kyX7_bears : kY yX7_bears cX7_bears 5 (some .boolean) wsX7_bears wsX7_bears.tail 3 := ⟨rfl, by decide, by decide, by decide +kernel⟩
set_option maxHeartbeats 4000000 in
set_option maxRecDepth 100000 in
theorem k_X7_bears (l : Launch) (D : va_G) (ct : ClassId × ClassId × ClassId) (z : Nat × Nat)  (x0 : Int32) (x1 : Int32) (x2 : Int32) (hc : 0 ≤ Int32.toInt x1 ∧ Int32.toInt x1 < 64) (hw : 0 ≤ Int32.toInt x2 ∧ Int32.toInt x2 < 8) : kC l D ct z yX7_bears wsX7_bears 3 70 [.int x0, .int x1, .int x2] ([]) (some (.int (f_X7_bears x0 x1 x2))) ([]) := by
  refine kHead (cc := cX7_bears) (maxL := 5) (ret := (some .boolean)) [(0, .int x0), (1, .int x1), (2, .int x2)] (by decide) rfl (Nat.le_of_ble_eq_true rfl) rfl ?_
  intro p e s m args below meth c A ls R Q hRf hRl hQ hx hb hr hlk hml hown hts hA hS hK hP hD hl
  have kc0 : (0 : Int32).toInt = 0 := by decide
  have kc1 : (1 : Int32).toInt = 1 := by decide
  have hf : f_X7_bears x0 x1 x2 = f_X7_bears x0 x1 x2 := rfl
  refine lv_iload_n hx hb dX7_bears_0 rfl (lv_at hl 1 rfl) ?_
  refine lv_iload_n hx hb dX7_bears_1 rfl (lv_at hl 2 rfl) ?_
  have hM : kC l D ct z yX7_ahead wsX7_ahead 2 49 [.int x1, .int x2] ([]) (some (.int (f_X7_ahead x1 x2))) ([]) := k_X7_ahead l D ct z x1 x2
  refine kS0 (As := [.int x1, .int x2]) (rest := []) ⟨hx, hb, hml, hown, hts⟩ hM gX7_bears_X7_ahead kyX7_ahead (by rw [hRf, hRl]; exact ⟨Nat.le_of_ble_eq_true rfl, Nat.le_of_ble_eq_true rfl⟩) hK hP hD hS hA rfl hl.1 rfl (st1 := [.int (f_X7_ahead x1 x2)]) rfl rfl ⟨Nat.zero_le _, Nat.zero_le _⟩ dX7_bears_2 (fun H locs hP hD hS => ?_)
  refine lv_topi (fun y5 ey5 => ?_)
  have hf := kLt hf ey5
  refine lv_istore_n (lv' := [(3, .int y5), (0, .int x0), (1, .int x1), (2, .int x2)]) hx hb dX7_bears_5 rfl hl (by decide) rfl (fun ls hl => ?_)
  refine lv_iconst (v := (0 : Int32)) hx hb dX7_bears_6 (by decide) ?_
  refine lv_istore (lv' := [(4, .int (0 : Int32)), (3, .int y5), (0, .int x0), (1, .int x1), (2, .int x2)]) hx hb dX7_bears_7 hl (by decide) rfl (fun ls hl => ?_)
  have lp9 : ∀ (K : Int32 → Int32), (∀ (z9_4 : Int32), (z9_4 = 0 ∨ z9_4 = 1) → ∀ (H : Heap) (locs : List Loc) (ls : Array Slot), va_P D vwCl ([]) H → va_D A ([]) → va_S A s.heap H locs → lv_has ls 5 [(4, .int z9_4)] → f_X7_bears x0 x1 x2 = K z9_4 → W p l e R s m args below meth c H locs 0 0 Q (F0 m 39 ls [])) → ∀ (n : Nat) (z9_4 : Int32) (z9_3 : Int32), (z9_4 = 0 ∨ z9_4 = 1) → ∀ (H : Heap) (locs : List Loc) (ls : Array Slot), (offA n z9_3 x2 = true) → va_P D vwCl ([]) H → va_D A ([]) → va_S A s.heap H locs → lv_has ls 5 [(4, .int z9_4), (3, .int z9_3), (0, .int x0), (2, .int x2)] → f_X7_bears x0 x1 x2 = f_X7_bears_L9 x0 x2 K n z9_4 z9_3 → W p l e R s m args below meth c H locs 0 0 Q (F0 m 9 ls []) := by
    intro K hk n
    induction n with
    | zero =>
      intro z9_4 z9_3 b01_z9_4 H locs ls hn9 hP hD hS hl hf
      refine lv_iload_n hx hb dX7_bears_9 rfl (lv_at hl 1 rfl) ?_
      refine lv_if_lt (tgt := 39) hx hb dX7_bears_10 (by decide) (fun c_4 => ?_) (fun c_4 => ?_)
      · have t_4 := ti_lt c_4
        exact hk _ b01_z9_4 _ _ _  hP hD hS (lv_sub hl [0] rfl) hf
      · have t_4 := ti_nlt c_4
        exfalso
        exact absurd (off_0 hn9) (by assumption)
    | succ n ih =>
      intro z9_4 z9_3 b01_z9_4 H locs ls hn9 hP hD hS hl hf
      refine lv_iload_n hx hb dX7_bears_9 rfl (lv_at hl 1 rfl) ?_
      refine lv_if_lt (tgt := 39) hx hb dX7_bears_10 (by decide) (fun c_1 => ?_) (fun c_1 => ?_)
      · have hf := kIt hf c_1
        have t_1 := ti_lt c_1
        exact hk _ b01_z9_4 _ _ _  hP hD hS (lv_sub hl [0] rfl) hf
      · have hf := kIf hf c_1
        have t_1 := ti_nlt c_1
        refine lv_iload hx hb dX7_bears_13 (lv_at hl 0 rfl) ?_
        refine kJn hf (fun j0 => ∀ (z28_s0 : Int32), (z28_s0 = 0 ∨ z28_s0 = 1) → f_X7_bears x0 x1 x2 = j0 z28_s0 → ∀ (H : Heap) (locs : List Loc) (ls : Array Slot), va_P D vwCl ([]) H → va_D A ([]) → va_S A s.heap H locs → lv_has ls 5 [(3, .int z9_3), (0, .int x0), (2, .int x2)] → W p l e R s m args below meth c H locs 0 0 Q (F0 m 28 ls [.int z28_s0])) ?_ ?_
        · intro j0 hj0 z28_s0 b01_z28_s0 hf H locs ls hP hD hS hl
          subst hj0
          refine lv_istore (lv' := [(4, .int z28_s0), (3, .int z9_3), (0, .int x0), (2, .int x2)]) hx hb dX7_bears_28 hl (by decide) rfl (fun ls hl => ?_)
          refine lv_iload_n hx hb dX7_bears_30 rfl (lv_at hl 1 rfl) ?_
          refine lv_iload_n hx hb dX7_bears_31 rfl (lv_at hl 3 rfl) ?_
          have hM : kC l D ct z yX7_ahead wsX7_ahead 2 49 [.int z9_3, .int x2] ([]) (some (.int (f_X7_ahead z9_3 x2))) ([]) := k_X7_ahead l D ct z z9_3 x2
          refine kS0 (As := [.int z9_3, .int x2]) (rest := []) ⟨hx, hb, hml, hown, hts⟩ hM gX7_bears_X7_ahead kyX7_ahead (by rw [hRf, hRl]; exact ⟨Nat.le_of_ble_eq_true rfl, Nat.le_of_ble_eq_true rfl⟩) hK hP hD hS hA rfl hl.1 rfl (st1 := [.int (f_X7_ahead z9_3 x2)]) rfl rfl ⟨Nat.zero_le _, Nat.zero_le _⟩ dX7_bears_32 (fun H locs hP hD hS => ?_)
          refine lv_topi (fun y35 ey35 => ?_)
          have hf := kLt hf ey35
          refine lv_istore_n (lv' := [(3, .int y35), (4, .int z28_s0), (0, .int x0), (2, .int x2)]) hx hb dX7_bears_35 rfl hl (by decide) rfl (fun ls hl => ?_)
          refine lv_goto (tgt := 9) hx hb dX7_bears_36 (by decide) ?_
          exact ih z28_s0 y35 b01_z28_s0 _ _ _ (off_s hn9 (by assumption) ey35) hP hD hS (lv_sub hl [1, 0, 2, 3] rfl) hf
        · intro j28 hJ28 hf
          refine kJn hf (fun j0 => ∀ (u0 : Unit), f_X7_bears x0 x1 x2 = j0 () → ∀ (H : Heap) (locs : List Loc) (ls : Array Slot), va_P D vwCl ([]) H → va_D A ([]) → va_S A s.heap H locs → lv_has ls 5 [(3, .int z9_3), (0, .int x0), (2, .int x2)] → W p l e R s m args below meth c H locs 0 0 Q (F0 m 23 ls [])) ?_ ?_
          · intro j0 hj0 u0  hf H locs ls hP hD hS hl
            subst hj0
            refine lv_iconst (v := (1 : Int32)) hx hb dX7_bears_23 (by decide) ?_
            refine lv_goto (tgt := 28) hx hb dX7_bears_24 (by decide) ?_
            exact hJ28 _ (Or.inr rfl)  hf _ _ _ hP hD hS (lv_sub hl [0, 1, 2] rfl)
          · intro j23 hJ23 hf
            refine lv_if_ne (tgt := 23) hx hb dX7_bears_15 (by decide) (fun c_2 => ?_) (fun c_2 => ?_)
            · have hf := kIf hf c_2
              have t_2 := ti_ne c_2
              exact hJ23 ()  hf _ _ _ hP hD hS (lv_sub hl [1, 2, 3] rfl)
            · have hf := kIt hf c_2
              have t_2 := ti_eq c_2
              refine lv_iload_n hx hb dX7_bears_18 rfl (lv_at hl 1 rfl) ?_
              refine lv_iload_n hx hb dX7_bears_19 rfl (lv_at hl 2 rfl) ?_
              refine lv_icmp_ne (tgt := 27) hx hb dX7_bears_20 (by decide) (fun c_3 => ?_) (fun c_3 => ?_)
              · have hf := kIf hf c_3
                have t_3 := ti_ne c_3
                refine lv_iconst (v := (0 : Int32)) hx hb dX7_bears_27 (by decide) ?_
                exact hJ28 _ (Or.inl rfl)  hf _ _ _ hP hD hS (lv_sub hl [1, 2, 3] rfl)
              · have hf := kIt hf c_3
                have t_3 := ti_eq c_3
                exact hJ23 ()  hf _ _ _ hP hD hS (lv_sub hl [1, 2, 3] rfl)
  refine lp9 _ (fun w9_4 b01_w9_4 H locs ls  hP hD hS hl hf => ?_) (8) (0 : Int32) y5 (Or.inl rfl) _ _ _ (off_8 hc hw ey5) hP hD hS (lv_sub hl [0, 1, 2, 4] rfl) hf
  refine lv_iload hx hb dX7_bears_39 (lv_at hl 0 rfl) ?_
  exact kRetZ hx hb hr hlk hP hD hS b01_w9_4 hf.symm rfl hQ dX7_bears_41
theorem kyX7_cross : kY yX7_cross cX7_cross 10 (some .int) wsX7_cross wsX7_cross.tail 5 := ⟨rfl, by decide, by decide, by decide +kernel⟩
set_option maxHeartbeats 4000000 in
set_option maxRecDepth 100000 in
theorem k_X7_cross (l : Launch) (D : va_G) (ct : ClassId × ClassId × ClassId) (z : Nat × Nat) (h : Nat) (ad : Nat → Nat) (x1 : Int32) (x2 : Int32) (x3 : Int32) (x4 : Int32) (x5 : Int32) (st : Nat → Nat → Int32)  : kC l D ct z yX7_cross wsX7_cross 4 94 [.ref h, .int x1, .int x2, .int x3, .int x4, .int x5] (mW h ad ct st) (some (.int (f_X7_cross x1 x2 x3 x4 x5 st))) (mW h ad ct st) := by
  refine kHead (cc := cX7_cross) (maxL := 10) (ret := (some .int)) [(0, .ref h), (1, .int x1), (2, .int x2), (3, .int x3), (4, .int x4), (5, .int x5)] (by decide) rfl (Nat.le_of_ble_eq_true rfl) rfl ?_
  intro p e s m args below meth c A ls R Q hRf hRl hQ hx hb hr hlk hml hown hts hA hS hK hP hD hl
  have kcm6 : (-6 : Int32).toInt = -6 := by decide
  have kcm2 : (-2 : Int32).toInt = -2 := by decide
  have kcm1 : (-1 : Int32).toInt = -1 := by decide
  have kc0 : (0 : Int32).toInt = 0 := by decide
  have kc1 : (1 : Int32).toInt = 1 := by decide
  have kc63 : (63 : Int32).toInt = 63 := by decide
  have kl0 : (0 : Int64).toInt = 0 := by decide
  have kl1 : (1 : Int64).toInt = 1 := by decide
  have hf : f_X7_cross x1 x2 x3 x4 x5 st = f_X7_cross x1 x2 x3 x4 x5 st := rfl
  refine lv_iload_n hx hb dX7_cross_0 rfl (lv_at hl 1 rfl) ?_
  have hM : kC l D ct z yX7_isCell wsX7_isCell 1 25 [.int x1] ([]) (some (.int (f_X7_isCell x1))) ([]) := k_X7_isCell l D ct z x1
  refine kS0 (As := [.int x1]) (rest := []) ⟨hx, hb, hml, hown, hts⟩ hM gX7_cross_X7_isCell kyX7_isCell (by rw [hRf, hRl]; exact ⟨Nat.le_of_ble_eq_true rfl, Nat.le_of_ble_eq_true rfl⟩) hK hP hD hS hA rfl hl.1 rfl (st1 := [.int (f_X7_isCell x1)]) rfl rfl ⟨Nat.zero_le _, Nat.zero_le _⟩ dX7_cross_1 (fun H locs hP hD hS => ?_)
  refine lv_if_eq (tgt := 14) hx hb dX7_cross_4 (by decide) (fun c_1 => ?_) (fun c_1 => ?_)
  · have hf := kIt hf c_1
    have t_1 := ti_eq c_1
    refine lv_iconst (v := (-1 : Int32)) hx hb dX7_cross_14 (by decide) ?_
    exact kRetI hx hb hr hlk hP hD hS hf.symm rfl hQ dX7_cross_15
  · have hf := kIf hf c_1
    have t_1 := ti_ne c_1; have w_1 := mcell_nz c_1
    refine lv_iload_n hx hb dX7_cross_7 rfl (lv_at hl 3 rfl) ?_
    have hM : kC l D ct z yX7_isCell wsX7_isCell 1 25 [.int x3] ([]) (some (.int (f_X7_isCell x3))) ([]) := k_X7_isCell l D ct z x3
    refine kS0 (As := [.int x3]) (rest := []) ⟨hx, hb, hml, hown, hts⟩ hM gX7_cross_X7_isCell kyX7_isCell (by rw [hRf, hRl]; exact ⟨Nat.le_of_ble_eq_true rfl, Nat.le_of_ble_eq_true rfl⟩) hK hP hD hS hA rfl hl.1 rfl (st1 := [.int (f_X7_isCell x3)]) rfl rfl ⟨Nat.zero_le _, Nat.zero_le _⟩ dX7_cross_8 (fun H locs hP hD hS => ?_)
    refine lv_if_ne (tgt := 16) hx hb dX7_cross_11 (by decide) (fun c_2 => ?_) (fun c_2 => ?_)
    · have hf := kIf hf c_2
      have t_2 := ti_ne c_2; have w_2 := mcell_nz c_2
      refine lv_iload_n hx hb dX7_cross_16 rfl (lv_at hl 2 rfl) ?_
      have hM : kC l D ct z yX7_isWay wsX7_isWay 1 25 [.int x2] ([]) (some (.int (f_X7_isWay x2))) ([]) := k_X7_isWay l D ct z x2
      refine kS0 (As := [.int x2]) (rest := []) ⟨hx, hb, hml, hown, hts⟩ hM gX7_cross_X7_isWay kyX7_isWay (by rw [hRf, hRl]; exact ⟨Nat.le_of_ble_eq_true rfl, Nat.le_of_ble_eq_true rfl⟩) hK hP hD hS hA rfl hl.1 rfl (st1 := [.int (f_X7_isWay x2)]) rfl rfl ⟨Nat.zero_le _, Nat.zero_le _⟩ dX7_cross_17 (fun H locs hP hD hS => ?_)
      refine lv_if_eq (tgt := 42) hx hb dX7_cross_20 (by decide) (fun c_3 => ?_) (fun c_3 => ?_)
      · have hf := kIt hf c_3
        have t_3 := ti_eq c_3
        refine lv_bipush (v := (-2 : Int32)) hx hb dX7_cross_42 (by decide) ?_
        exact kRetI hx hb hr hlk hP hD hS hf.symm rfl hQ dX7_cross_44
      · have hf := kIf hf c_3
        have t_3 := ti_ne c_3; have w_3 := mway_nz c_3
        refine lv_iload hx hb dX7_cross_23 (lv_at hl 4 rfl) ?_
        have hM : kC l D ct z yX7_isWay wsX7_isWay 1 25 [.int x4] ([]) (some (.int (f_X7_isWay x4))) ([]) := k_X7_isWay l D ct z x4
        refine kS0 (As := [.int x4]) (rest := []) ⟨hx, hb, hml, hown, hts⟩ hM gX7_cross_X7_isWay kyX7_isWay (by rw [hRf, hRl]; exact ⟨Nat.le_of_ble_eq_true rfl, Nat.le_of_ble_eq_true rfl⟩) hK hP hD hS hA rfl hl.1 rfl (st1 := [.int (f_X7_isWay x4)]) rfl rfl ⟨Nat.zero_le _, Nat.zero_le _⟩ dX7_cross_25 (fun H locs hP hD hS => ?_)
        refine lv_if_eq (tgt := 42) hx hb dX7_cross_28 (by decide) (fun c_4 => ?_) (fun c_4 => ?_)
        · have hf := kIt hf c_4
          have t_4 := ti_eq c_4
          refine lv_bipush (v := (-2 : Int32)) hx hb dX7_cross_42 (by decide) ?_
          exact kRetI hx hb hr hlk hP hD hS hf.symm rfl hQ dX7_cross_44
        · have hf := kIf hf c_4
          have t_4 := ti_ne c_4; have w_4 := mway_nz c_4
          refine lv_iload hx hb dX7_cross_31 (lv_at hl 5 rfl) ?_
          refine lv_i2l (v := (Int32.toInt64 x5)) hx hb dX7_cross_33 rfl ?_
          refine lv_lconst (v := (0 : Int64)) hx hb dX7_cross_34 (by decide) ?_
          refine lv_lconst (v := (1 : Int64)) hx hb dX7_cross_35 (by decide) ?_
          have hM : kC l D ct z yX7_in wsX7_in 0 0 [.long (Int32.toInt64 x5), .long (0 : Int64), .long (1 : Int64)] ([]) (some (.int (f_X7_in (Int32.toInt64 x5) (0 : Int64) (1 : Int64)))) ([]) := k_X7_in l D ct z (Int32.toInt64 x5) (0 : Int64) (1 : Int64)
          refine kS0 (As := [.long (Int32.toInt64 x5), .long (0 : Int64), .long (1 : Int64)]) (rest := []) ⟨hx, hb, hml, hown, hts⟩ hM gX7_cross_X7_in kyX7_in (by rw [hRf, hRl]; exact ⟨Nat.le_of_ble_eq_true rfl, Nat.le_of_ble_eq_true rfl⟩) hK hP hD hS hA rfl hl.1 rfl (st1 := [.int (f_X7_in (Int32.toInt64 x5) (0 : Int64) (1 : Int64))]) rfl rfl ⟨Nat.zero_le _, Nat.zero_le _⟩ dX7_cross_36 (fun H locs hP hD hS => ?_)
          refine lv_if_ne (tgt := 45) hx hb dX7_cross_39 (by decide) (fun c_5 => ?_) (fun c_5 => ?_)
          · have hf := kIf hf c_5
            have t_5 := ti_ne c_5; have w_5 := in_nz c_5
            refine lv_iconst (v := (0 : Int32)) hx hb dX7_cross_45 (by decide) ?_
            refine lv_istore (lv' := [(6, .int (0 : Int32)), (0, .ref h), (1, .int x1), (2, .int x2), (3, .int x3), (4, .int x4), (5, .int x5)]) hx hb dX7_cross_46 hl (by decide) rfl (fun ls hl => ?_)
            refine lv_bipush (v := (-6 : Int32)) hx hb dX7_cross_48 (by decide) ?_
            refine lv_istore (lv' := [(7, .int (-6 : Int32)), (6, .int (0 : Int32)), (0, .ref h), (1, .int x1), (2, .int x2), (3, .int x3), (4, .int x4), (5, .int x5)]) hx hb dX7_cross_50 hl (by decide) rfl (fun ls hl => ?_)
            refine lv_bipush (v := (63 : Int32)) hx hb dX7_cross_52 (by decide) ?_
            refine lv_istore (lv' := [(8, .int (63 : Int32)), (7, .int (-6 : Int32)), (6, .int (0 : Int32)), (0, .ref h), (1, .int x1), (2, .int x2), (3, .int x3), (4, .int x4), (5, .int x5)]) hx hb dX7_cross_54 hl (by decide) rfl (fun ls hl => ?_)
            have lp56 : ∀ (K : Int32 → Int32 → Int32), (∀ (z56_7 : Int32) (z56_6 : Int32), ∀ (H : Heap) (locs : List Loc) (ls : Array Slot), va_P D vwCl (mW h ad ct st) H → va_D A (mW h ad ct st) → va_S A s.heap H locs → lv_has ls 10 [(7, .int z56_7), (6, .int z56_6), (5, .int x5)] → f_X7_cross x1 x2 x3 x4 x5 st = K z56_7 z56_6 → W p l e R s m args below meth c H locs 0 0 Q (F0 m 124 ls [])) → ∀ (n : Nat) (z56_8 : Int32) (z56_7 : Int32) (z56_6 : Int32), ∀ (H : Heap) (locs : List Loc) (ls : Array Slot), (Int32.toInt z56_8 < (n : Int)) → (Int32.toInt z56_8 < 64) → va_P D vwCl (mW h ad ct st) H → va_D A (mW h ad ct st) → va_S A s.heap H locs → lv_has ls 10 [(8, .int z56_8), (7, .int z56_7), (6, .int z56_6), (1, .int x1), (2, .int x2), (3, .int x3), (4, .int x4), (5, .int x5)] → f_X7_cross x1 x2 x3 x4 x5 st = f_X7_cross_L56 x1 x2 x3 x4 K n z56_8 z56_7 z56_6 → W p l e R s m args below meth c H locs 0 0 Q (F0 m 56 ls []) := by
              intro K hk n
              induction n with
              | zero =>
                intro z56_8 z56_7 z56_6  H locs ls hn56 hu56 hP hD hS hl hf
                refine lv_iload hx hb dX7_cross_56 (lv_at hl 0 rfl) ?_
                refine lv_if_lt (tgt := 124) hx hb dX7_cross_58 (by decide) (fun c_11 => ?_) (fun c_11 => ?_)
                · have t_11 := ti_lt c_11
                  exact hk _ _ _ _ _  hP hD hS (lv_sub hl [1, 2, 7] rfl) hf
                · have t_11 := ti_nlt c_11
                  exfalso
                  omega
              | succ n ih =>
                intro z56_8 z56_7 z56_6  H locs ls hn56 hu56 hP hD hS hl hf
                refine lv_iload hx hb dX7_cross_56 (lv_at hl 0 rfl) ?_
                refine lv_if_lt (tgt := 124) hx hb dX7_cross_58 (by decide) (fun c_6 => ?_) (fun c_6 => ?_)
                · have hf := kIt hf c_6
                  have t_6 := ti_lt c_6
                  exact hk _ _ _ _ _  hP hD hS (lv_sub hl [1, 2, 7] rfl) hf
                · have hf := kIf hf c_6
                  have t_6 := ti_nlt c_6
                  refine lv_iload hx hb dX7_cross_61 (lv_at hl 0 rfl) ?_
                  refine lv_iload_n hx hb dX7_cross_63 rfl (lv_at hl 3 rfl) ?_
                  refine lv_iload_n hx hb dX7_cross_64 rfl (lv_at hl 4 rfl) ?_
                  have hM : kC l D ct z yX7_bears wsX7_bears 3 70 [.int z56_8, .int x1, .int x2] ([]) (some (.int (f_X7_bears z56_8 x1 x2))) ([]) := k_X7_bears l D ct z z56_8 x1 x2 (by first | assumption | exact vin (by omega) (by omega) | omega) (by first | assumption | exact vin (by omega) (by omega) | omega)
                  refine kS0 (As := [.int z56_8, .int x1, .int x2]) (rest := []) ⟨hx, hb, hml, hown, hts⟩ hM gX7_cross_X7_bears kyX7_bears (by rw [hRf, hRl]; exact ⟨Nat.le_of_ble_eq_true rfl, Nat.le_of_ble_eq_true rfl⟩) hK hP hD hS hA rfl hl.1 rfl (st1 := [.int (f_X7_bears z56_8 x1 x2)]) rfl rfl ⟨Nat.zero_le _, Nat.zero_le _⟩ dX7_cross_65 (fun H locs hP hD hS => ?_)
                  refine kJn hf (fun j0 => ∀ (z87_s0 : Int32), (z87_s0 = 0 ∨ z87_s0 = 1) → f_X7_cross x1 x2 x3 x4 x5 st = j0 z87_s0 → ∀ (H : Heap) (locs : List Loc) (ls : Array Slot), va_P D vwCl (mW h ad ct st) H → va_D A (mW h ad ct st) → va_S A s.heap H locs → lv_has ls 10 [(8, .int z56_8), (7, .int z56_7), (6, .int z56_6), (1, .int x1), (2, .int x2), (3, .int x3), (4, .int x4), (5, .int x5)] → W p l e R s m args below meth c H locs 0 0 Q (F0 m 87 ls [.int z87_s0])) ?_ ?_
                  · intro j0 hj0 z87_s0 b01_z87_s0 hf H locs ls hP hD hS hl
                    subst hj0
                    refine lv_istore (lv' := [(9, .int z87_s0), (8, .int z56_8), (7, .int z56_7), (6, .int z56_6), (1, .int x1), (2, .int x2), (3, .int x3), (4, .int x4), (5, .int x5)]) hx hb dX7_cross_87 hl (by decide) rfl (fun ls hl => ?_)
                    refine lv_iload hx hb dX7_cross_89 (lv_at hl 3 rfl) ?_
                    refine lv_iload hx hb dX7_cross_91 (lv_at hl 0 rfl) ?_
                    refine kJn hf (fun j0 => ∀ (z101_s0 : Int32), (z101_s0 = 0 ∨ z101_s0 = 1) → f_X7_cross x1 x2 x3 x4 x5 st = j0 z101_s0 → ∀ (H : Heap) (locs : List Loc) (ls : Array Slot), va_P D vwCl (mW h ad ct st) H → va_D A (mW h ad ct st) → va_S A s.heap H locs → lv_has ls 10 [(9, .int z87_s0), (8, .int z56_8), (7, .int z56_7), (1, .int x1), (2, .int x2), (3, .int x3), (4, .int x4), (5, .int x5)] → W p l e R s m args below meth c H locs 0 0 Q (F0 m 101 ls [.int z101_s0, .int z56_6])) ?_ ?_
                    · intro j0 hj0 z101_s0 b01_z101_s0 hf H locs ls hP hD hS hl
                      subst hj0
                      refine lv_iadd hx hb dX7_cross_101 ?_
                      refine lv_topi (fun y102 ey102 => ?_)
                      have hf := kLt hf ey102
                      refine lv_istore (lv' := [(6, .int y102), (9, .int z87_s0), (8, .int z56_8), (7, .int z56_7), (1, .int x1), (2, .int x2), (3, .int x3), (4, .int x4), (5, .int x5)]) hx hb dX7_cross_102 hl (by decide) rfl (fun ls hl => ?_)
                      refine lv_iload hx hb dX7_cross_104 (lv_at hl 1 rfl) ?_
                      refine kJn hf (fun j0 => ∀ (z116_s0 : Int32), f_X7_cross x1 x2 x3 x4 x5 st = j0 z116_s0 → ∀ (H : Heap) (locs : List Loc) (ls : Array Slot), va_P D vwCl (mW h ad ct st) H → va_D A (mW h ad ct st) → va_S A s.heap H locs → lv_has ls 10 [(6, .int y102), (8, .int z56_8), (1, .int x1), (2, .int x2), (3, .int x3), (4, .int x4), (5, .int x5)] → W p l e R s m args below meth c H locs 0 0 Q (F0 m 116 ls [.int z116_s0])) ?_ ?_
                      · intro j0 hj0 z116_s0  hf H locs ls hP hD hS hl
                        subst hj0
                        refine lv_istore (lv' := [(7, .int z116_s0), (6, .int y102), (8, .int z56_8), (1, .int x1), (2, .int x2), (3, .int x3), (4, .int x4), (5, .int x5)]) hx hb dX7_cross_116 hl (by decide) rfl (fun ls hl => ?_)
                        obtain ⟨y118, ey118⟩ : ∃ y : Int32, y = z56_8 + (-1 : Int32) := ⟨_, rfl⟩
                        have hf := kLt hf ey118
                        have a118 : Int32.toInt y118 = Int32.toInt z56_8 - 1 := by have := ti_rng z56_8; rw [ey118]; exact ti_add (by rw [kcm1]; rfl) (by omega) (by omega)
                        refine lv_iinc (v := y118) (lv' := [(8, .int y118), (7, .int z116_s0), (6, .int y102), (1, .int x1), (2, .int x2), (3, .int x3), (4, .int x4), (5, .int x5)]) hx hb dX7_cross_118 hl (k := 2) rfl (by rw [ey118]; rfl) (by decide) rfl (fun ls hl => ?_)
                        refine lv_goto (tgt := 56) hx hb dX7_cross_121 (by decide) ?_
                        exact ih y118 z116_s0 y102 _ _ _ (by first | assumption | exact vin (by omega) (by omega) | omega) (by first | assumption | exact vin (by omega) (by omega) | omega) hP hD hS (lv_sub hl [0, 1, 2, 3, 4, 5, 6, 7] rfl) hf
                      · intro j116 hJ116 hf
                        refine lv_if_eq (tgt := 114) hx hb dX7_cross_106 (by decide) (fun c_9 => ?_) (fun c_9 => ?_)
                        · have hf := kIt hf c_9
                          have t_9 := ti_eq c_9
                          refine lv_iload hx hb dX7_cross_114 (lv_at hl 3 rfl) ?_
                          exact hJ116 _  hf _ _ _ hP hD hS (lv_sub hl [0, 2, 4, 5, 6, 7, 8] rfl)
                        · have hf := kIf hf c_9
                          have t_9 := ti_ne c_9
                          refine lv_iload hx hb dX7_cross_109 (lv_at hl 2 rfl) ?_
                          refine lv_goto (tgt := 116) hx hb dX7_cross_111 (by decide) ?_
                          exact hJ116 _  hf _ _ _ hP hD hS (lv_sub hl [0, 2, 4, 5, 6, 7, 8] rfl)
                    · intro j101 hJ101 hf
                      refine lv_if_eq (tgt := 100) hx hb dX7_cross_93 (by decide) (fun c_8 => ?_) (fun c_8 => ?_)
                      · have hf := kIt hf c_8
                        have t_8 := ti_eq c_8
                        refine lv_iconst (v := (0 : Int32)) hx hb dX7_cross_100 (by decide) ?_
                        exact hJ101 _ (Or.inl rfl)  hf _ _ _ hP hD hS (lv_sub hl [0, 1, 2, 4, 5, 6, 7, 8] rfl)
                      · have hf := kIf hf c_8
                        have t_8 := ti_ne c_8
                        refine lv_iconst (v := (1 : Int32)) hx hb dX7_cross_96 (by decide) ?_
                        refine lv_goto (tgt := 101) hx hb dX7_cross_97 (by decide) ?_
                        exact hJ101 _ (Or.inr rfl)  hf _ _ _ hP hD hS (lv_sub hl [0, 1, 2, 4, 5, 6, 7, 8] rfl)
                  · intro j87 hJ87 hf
                    refine kJn hf (fun j0 => ∀ (u0 : Unit), f_X7_cross x1 x2 x3 x4 x5 st = j0 () → ∀ (H : Heap) (locs : List Loc) (ls : Array Slot), va_P D vwCl (mW h ad ct st) H → va_D A (mW h ad ct st) → va_S A s.heap H locs → lv_has ls 10 [(8, .int z56_8), (7, .int z56_7), (6, .int z56_6), (1, .int x1), (2, .int x2), (3, .int x3), (4, .int x4), (5, .int x5)] → W p l e R s m args below meth c H locs 0 0 Q (F0 m 86 ls [])) ?_ ?_
                    · intro j0 hj0 u0  hf H locs ls hP hD hS hl
                      subst hj0
                      refine lv_iconst (v := (0 : Int32)) hx hb dX7_cross_86 (by decide) ?_
                      exact hJ87 _ (Or.inl rfl)  hf _ _ _ hP hD hS (lv_sub hl [0, 1, 2, 3, 4, 5, 6, 7] rfl)
                    · intro j86 hJ86 hf
                      refine lv_if_eq (tgt := 86) hx hb dX7_cross_68 (by decide) (fun c_7 => ?_) (fun c_7 => ?_)
                      · have hf := kIt hf c_7
                        have t_7 := ti_eq c_7
                        exact hJ86 ()  hf _ _ _ hP hD hS (lv_sub hl [0, 1, 2, 3, 4, 5, 6, 7] rfl)
                      · have hf := kIf hf c_7
                        have t_7 := ti_ne c_7
                        refine lv_iload hx hb dX7_cross_71 (lv_at hl 0 rfl) ?_
                        refine lv_iload_n hx hb dX7_cross_73 rfl (lv_at hl 5 rfl) ?_
                        refine lv_iload hx hb dX7_cross_74 (lv_at hl 6 rfl) ?_
                        have hM : kC l D ct z yX7_bears wsX7_bears 3 70 [.int z56_8, .int x3, .int x4] ([]) (some (.int (f_X7_bears z56_8 x3 x4))) ([]) := k_X7_bears l D ct z z56_8 x3 x4 (by first | assumption | exact vin (by omega) (by omega) | omega) (by first | assumption | exact vin (by omega) (by omega) | omega)
                        refine kS0 (As := [.int z56_8, .int x3, .int x4]) (rest := []) ⟨hx, hb, hml, hown, hts⟩ hM gX7_cross_X7_bears kyX7_bears (by rw [hRf, hRl]; exact ⟨Nat.le_of_ble_eq_true rfl, Nat.le_of_ble_eq_true rfl⟩) hK hP hD hS hA rfl hl.1 rfl (st1 := [.int (f_X7_bears z56_8 x3 x4)]) rfl rfl ⟨Nat.zero_le _, Nat.zero_le _⟩ dX7_cross_76 (fun H locs hP hD hS => ?_)
                        refine lv_if_eq (tgt := 86) hx hb dX7_cross_79 (by decide) (fun c_10 => ?_) (fun c_10 => ?_)
                        · have hf := kIt hf c_10
                          have t_10 := ti_eq c_10
                          exact hJ86 ()  hf _ _ _ hP hD hS (lv_sub hl [0, 1, 2, 3, 4, 5, 6, 7] rfl)
                        · have hf := kIf hf c_10
                          have t_10 := ti_ne c_10
                          refine lv_iconst (v := (1 : Int32)) hx hb dX7_cross_82 (by decide) ?_
                          refine lv_goto (tgt := 87) hx hb dX7_cross_83 (by decide) ?_
                          exact hJ87 _ (Or.inr rfl)  hf _ _ _ hP hD hS (lv_sub hl [0, 1, 2, 3, 4, 5, 6, 7] rfl)
            refine lp56 _ (fun w56_7 w56_6  H locs ls  hP hD hS hl hf => ?_) (64) (63 : Int32) (-6 : Int32) (0 : Int32)  _ _ _ (by first | assumption | exact vin (by omega) (by omega) | omega) (by first | assumption | exact vin (by omega) (by omega) | omega) hP hD hS (lv_sub hl [0, 1, 2, 4, 5, 6, 7, 8] rfl) hf
            refine lv_iload hx hb dX7_cross_124 (lv_at hl 2 rfl) ?_
            refine lv_if_ne (tgt := 134) hx hb dX7_cross_126 (by decide) (fun c_12 => ?_) (fun c_12 => ?_)
            · have hf := kIf hf c_12
              have t_12 := ti_ne c_12
              refine lv_iload hx hb dX7_cross_134 (lv_at hl 0 rfl) ?_
              exact kRetI hx hb hr hlk hP hD hS hf.symm rfl hQ dX7_cross_136
            · have hf := kIt hf c_12
              have t_12 := ti_eq c_12
              refine lv_iload hx hb dX7_cross_129 (lv_at hl 1 rfl) ?_
              refine lv_goto (tgt := 136) hx hb dX7_cross_131 (by decide) ?_
              exact kRetI hx hb hr hlk hP hD hS hf.symm rfl hQ dX7_cross_136
          · have hf := kIt hf c_5
            have t_5 := ti_eq c_5
            refine lv_bipush (v := (-2 : Int32)) hx hb dX7_cross_42 (by decide) ?_
            exact kRetI hx hb hr hlk hP hD hS hf.symm rfl hQ dX7_cross_44
    · have hf := kIt hf c_2
      have t_2 := ti_eq c_2
      refine lv_iconst (v := (-1 : Int32)) hx hb dX7_cross_14 (by decide) ?_
      exact kRetI hx hb hr hlk hP hD hS hf.symm rfl hQ dX7_cross_15
theorem kyX7_readPieces : kY yX7_readPieces cX7_readPieces 6 (some .boolean) wsX7_readPieces wsX7_readPieces.tail 2 := ⟨rfl, by decide, by decide, by decide +kernel⟩
set_option maxHeartbeats 4000000 in
set_option maxRecDepth 100000 in
theorem k_X7_readPieces (l : Launch) (D : va_G) (ct : ClassId × ClassId × ClassId) (z : Nat × Nat) (h : Nat) (ad : Nat → Nat) (x1 : Int32) (x2 : Int32) (st : Nat → Nat → Int32) (hn : 1 ≤ Int32.toInt x2 ∧ Int32.toInt x2 ≤ 9) : kC l D ct z yX7_readPieces wsX7_readPieces 0 0 [.ref h, .int x1, .int x2] (mW h ad ct st) (some (.int ((f_X7_readPieces x1 x2 st).1))) (mW h ad ct ((f_X7_readPieces x1 x2 st).2)) := by
  refine kHead (cc := cX7_readPieces) (maxL := 6) (ret := (some .boolean)) [(0, .ref h), (1, .int x1), (2, .int x2)] (by decide) rfl (Nat.le_of_ble_eq_true rfl) rfl ?_
  intro p e s m args below meth c A ls R Q hRf hRl hQ hx hb hr hlk hml hown hts hA hS hK hP hD hl
  have inX7 : ∀ w ∈ wsX70, w ∈ wsX7_readPieces := fun w h => (List.mem_cons_of_mem _ (List.mem_append_right _ h))
  have hw1 := hts (Cond.fieldLink RX7 40 "MastPulpitsModel" "pieces" "[I") (List.mem_of_getElem? (i := 1) (by decide +kernel))
  have kcm1 : (-1 : Int32).toInt = -1 := by decide
  have kc0 : (0 : Int32).toInt = 0 := by decide
  have kc1 : (1 : Int32).toInt = 1 := by decide
  have kc10 : (10 : Int32).toInt = 10 := by decide
  have hf : f_X7_readPieces x1 x2 st = f_X7_readPieces x1 x2 st := rfl
  refine lv_iload_n hx hb dX7_readPieces_0 rfl (lv_at hl 1 rfl) ?_
  refine lv_istore_n (lv' := [(3, .int x1), (0, .ref h), (1, .int x1), (2, .int x2)]) hx hb dX7_readPieces_1 rfl hl (by decide) rfl (fun ls hl => ?_)
  refine lv_iload_n hx hb dX7_readPieces_2 rfl (lv_at hl 2 rfl) ?_
  refine kJn hf (fun j0 => ∀ (z11_s0 : Int32), (z11_s0 = 0 ∨ z11_s0 = 1) → f_X7_readPieces x1 x2 st = j0 z11_s0 → ∀ (H : Heap) (locs : List Loc) (ls : Array Slot), va_P D vwCl (mW h ad ct st) H → va_D A (mW h ad ct st) → va_S A s.heap H locs → lv_has ls 6 [(3, .int x1), (0, .ref h), (2, .int x2)] → W p l e R s m args below meth c H locs 0 0 Q (F0 m 11 ls [.int z11_s0])) ?_ ?_
  · intro j0 hj0 z11_s0 b01_z11_s0 hf H locs ls hP hD hS hl
    subst hj0
    refine lv_istore (lv' := [(4, .int z11_s0), (3, .int x1), (0, .ref h), (2, .int x2)]) hx hb dX7_readPieces_11 hl (by decide) rfl (fun ls hl => ?_)
    refine lv_iload_n hx hb dX7_readPieces_13 rfl (lv_at hl 3 rfl) ?_
    refine lv_iconst (v := (1 : Int32)) hx hb dX7_readPieces_14 (by decide) ?_
    refine lv_isub hx hb dX7_readPieces_15 ?_
    refine lv_topi (fun y16 ey16 => ?_)
    have hf := kLt hf ey16
    have a16 : Int32.toInt y16 = Int32.toInt x2 - 1 := by rw [ey16]; exact ti_sub (by rw [kc1]) (by omega) (by omega)
    refine lv_istore (lv' := [(5, .int y16), (4, .int z11_s0), (3, .int x1), (0, .ref h), (2, .int x2)]) hx hb dX7_readPieces_16 hl (by decide) rfl (fun ls hl => ?_)
    have lp18 : ∀ (K : Int32 → Int32 → (Nat → Nat → Int32) → (Int32 × (Nat → Nat → Int32))), (∀ (z18_4 : Int32) (z18_3 : Int32) (z18_st : Nat → Nat → Int32), (z18_4 = 0 ∨ z18_4 = 1) → ∀ (H : Heap) (locs : List Loc) (ls : Array Slot), va_P D vwCl (mW h ad ct z18_st) H → va_D A (mW h ad ct z18_st) → va_S A s.heap H locs → lv_has ls 6 [(4, .int z18_4), (3, .int z18_3)] → f_X7_readPieces x1 x2 st = K z18_4 z18_3 z18_st → W p l e R s m args below meth c H locs 0 0 Q (F0 m 67 ls [])) → ∀ (n : Nat) (z18_5 : Int32) (z18_4 : Int32) (z18_3 : Int32) (z18_st : Nat → Nat → Int32), (z18_4 = 0 ∨ z18_4 = 1) → ∀ (H : Heap) (locs : List Loc) (ls : Array Slot), (Int32.toInt z18_5 < (n : Int)) → (Int32.toInt z18_5 < 9) → va_P D vwCl (mW h ad ct z18_st) H → va_D A (mW h ad ct z18_st) → va_S A s.heap H locs → lv_has ls 6 [(5, .int z18_5), (4, .int z18_4), (3, .int z18_3), (0, .ref h)] → f_X7_readPieces x1 x2 st = f_X7_readPieces_L18  K n z18_5 z18_4 z18_3 z18_st → W p l e R s m args below meth c H locs 0 0 Q (F0 m 18 ls []) := by
      intro K hk n
      induction n with
      | zero =>
        intro z18_5 z18_4 z18_3 z18_st b01_z18_4 H locs ls hn18 hu18 hP hD hS hl hf
        refine lv_iload hx hb dX7_readPieces_18 (lv_at hl 0 rfl) ?_
        refine lv_if_lt (tgt := 67) hx hb dX7_readPieces_20 (by decide) (fun c_5 => ?_) (fun c_5 => ?_)
        · have t_5 := ti_lt c_5
          exact hk _ _ _ b01_z18_4 _ _ _  hP hD hS (lv_sub hl [1, 2] rfl) hf
        · have t_5 := ti_nlt c_5
          exfalso
          omega
      | succ n ih =>
        intro z18_5 z18_4 z18_3 z18_st b01_z18_4 H locs ls hn18 hu18 hP hD hS hl hf
        refine lv_iload hx hb dX7_readPieces_18 (lv_at hl 0 rfl) ?_
        refine lv_if_lt (tgt := 67) hx hb dX7_readPieces_20 (by decide) (fun c_2 => ?_) (fun c_2 => ?_)
        · have hf := kIt hf c_2
          have t_2 := ti_lt c_2
          exact hk _ _ _ b01_z18_4 _ _ _  hP hD hS (lv_sub hl [1, 2] rfl) hf
        · have hf := kIf hf c_2
          have t_2 := ti_nlt c_2
          refine lv_aload_n hx hb dX7_readPieces_23 rfl (lv_at hl 3 rfl) ?_
          refine va_get (D := D) (cl := vwCl) (ci := 6) (v := .ref (ad 25)) (C := RX7) (T := TX7) (N := 34) hx hb hts inX7 hown hK.1 hP 0 (mO h ad ct z18_st) rfl 25 (by decide) hw1 (fun _ h => h) (mF_25 ad z18_st) dX7_readPieces_24 ?_
          refine lv_iload hx hb dX7_readPieces_27 (lv_at hl 0 rfl) ?_
          refine lv_iload_n hx hb dX7_readPieces_29 rfl (lv_at hl 2 rfl) ?_
          refine lv_bipush (v := (10 : Int32)) hx hb dX7_readPieces_30 (by decide) ?_
          refine lv_irem hx hb dX7_readPieces_32 (by decide) ?_
          refine lv_topi (fun y33 ey33 => ?_)
          have hf := kLt hf ey33
          refine kIast (W1 := mW h ad ct (u2 z18_st 26 ((Int32.toNatClampNeg z18_5)) y33)) hx hb hK hP hD hS 11 (mA_25 h ad ct z18_st) (by first | assumption | exact vin (by omega) (by omega) | omega) (mB_25 h ad ct z18_st _ _) dX7_readPieces_33 (fun H locs hP hD hS => ?_)
          refine lv_iload hx hb dX7_readPieces_34 (lv_at hl 1 rfl) ?_
          refine kJn hf (fun j0 => ∀ (z54_s0 : Int32), (z54_s0 = 0 ∨ z54_s0 = 1) → f_X7_readPieces x1 x2 st = j0 z54_s0 → ∀ (H : Heap) (locs : List Loc) (ls : Array Slot), va_P D vwCl (mW h ad ct (u2 z18_st 26 ((Int32.toNatClampNeg z18_5)) y33)) H → va_D A (mW h ad ct (u2 z18_st 26 ((Int32.toNatClampNeg z18_5)) y33)) → va_S A s.heap H locs → lv_has ls 6 [(5, .int z18_5), (3, .int z18_3), (0, .ref h)] → W p l e R s m args below meth c H locs 0 0 Q (F0 m 54 ls [.int z54_s0])) ?_ ?_
          · intro j0 hj0 z54_s0 b01_z54_s0 hf H locs ls hP hD hS hl
            subst hj0
            refine lv_istore (lv' := [(4, .int z54_s0), (5, .int z18_5), (3, .int z18_3), (0, .ref h)]) hx hb dX7_readPieces_54 hl (by decide) rfl (fun ls hl => ?_)
            refine lv_iload_n hx hb dX7_readPieces_56 rfl (lv_at hl 2 rfl) ?_
            refine lv_bipush (v := (10 : Int32)) hx hb dX7_readPieces_57 (by decide) ?_
            refine lv_idiv hx hb dX7_readPieces_59 (by decide) ?_
            refine lv_topi (fun y60 ey60 => ?_)
            have hf := kLt hf ey60
            refine lv_istore_n (lv' := [(3, .int y60), (4, .int z54_s0), (5, .int z18_5), (0, .ref h)]) hx hb dX7_readPieces_60 rfl hl (by decide) rfl (fun ls hl => ?_)
            obtain ⟨y61, ey61⟩ : ∃ y : Int32, y = z18_5 + (-1 : Int32) := ⟨_, rfl⟩
            have hf := kLt hf ey61
            have a61 : Int32.toInt y61 = Int32.toInt z18_5 - 1 := by have := ti_rng z18_5; rw [ey61]; exact ti_add (by rw [kcm1]; rfl) (by omega) (by omega)
            refine lv_iinc (v := y61) (lv' := [(5, .int y61), (3, .int y60), (4, .int z54_s0), (0, .ref h)]) hx hb dX7_readPieces_61 hl (k := 2) rfl (by rw [ey61]; rfl) (by decide) rfl (fun ls hl => ?_)
            refine lv_goto (tgt := 18) hx hb dX7_readPieces_64 (by decide) ?_
            exact ih y61 z54_s0 y60 (u2 z18_st 26 ((Int32.toNatClampNeg z18_5)) y33) b01_z54_s0 _ _ _ (by first | assumption | exact vin (by omega) (by omega) | omega) (by first | assumption | exact vin (by omega) (by omega) | omega) hP hD hS (lv_sub hl [0, 2, 1, 3] rfl) hf
          · intro j54 hJ54 hf
            refine kJn hf (fun j0 => ∀ (u0 : Unit), f_X7_readPieces x1 x2 st = j0 () → ∀ (H : Heap) (locs : List Loc) (ls : Array Slot), va_P D vwCl (mW h ad ct (u2 z18_st 26 ((Int32.toNatClampNeg z18_5)) y33)) H → va_D A (mW h ad ct (u2 z18_st 26 ((Int32.toNatClampNeg z18_5)) y33)) → va_S A s.heap H locs → lv_has ls 6 [(5, .int z18_5), (3, .int z18_3), (0, .ref h)] → W p l e R s m args below meth c H locs 0 0 Q (F0 m 53 ls [])) ?_ ?_
            · intro j0 hj0 u0  hf H locs ls hP hD hS hl
              subst hj0
              refine lv_iconst (v := (0 : Int32)) hx hb dX7_readPieces_53 (by decide) ?_
              exact hJ54 _ (Or.inl rfl)  hf _ _ _ hP hD hS (lv_sub hl [0, 1, 2] rfl)
            · intro j53 hJ53 hf
              refine lv_if_eq (tgt := 53) hx hb dX7_readPieces_36 (by decide) (fun c_3 => ?_) (fun c_3 => ?_)
              · have hf := kIt hf c_3
                have t_3 := ti_eq c_3
                exact hJ53 ()  hf _ _ _ hP hD hS (lv_sub hl [0, 2, 3] rfl)
              · have hf := kIf hf c_3
                have t_3 := ti_ne c_3
                refine lv_aload_n hx hb dX7_readPieces_39 rfl (lv_at hl 3 rfl) ?_
                refine va_get (D := D) (cl := vwCl) (ci := 6) (v := .ref (ad 25)) (C := RX7) (T := TX7) (N := 34) hx hb hts inX7 hown hK.1 hP 0 (mO h ad ct (u2 z18_st 26 ((Int32.toNatClampNeg z18_5)) y33)) rfl 25 (by decide) hw1 (fun _ h => h) (mF_25 ad (u2 z18_st 26 ((Int32.toNatClampNeg z18_5)) y33)) dX7_readPieces_40 ?_
                refine lv_iload hx hb dX7_readPieces_43 (lv_at hl 0 rfl) ?_
                refine va_iald hx hb hK.1 hP 11 0 (mA_25 h ad ct (u2 z18_st 26 ((Int32.toNatClampNeg z18_5)) y33)) rfl (by first | assumption | exact vin (by omega) (by omega) | omega) dX7_readPieces_45 ?_
                refine lv_if_le (tgt := 53) hx hb dX7_readPieces_46 (by decide) (fun c_4 => ?_) (fun c_4 => ?_)
                · have hf := kIt hf c_4
                  have t_4 := ti_le c_4
                  exact hJ53 ()  hf _ _ _ hP hD hS (lv_sub hl [0, 2, 3] rfl)
                · have hf := kIf hf c_4
                  have t_4 := ti_nle c_4
                  refine lv_iconst (v := (1 : Int32)) hx hb dX7_readPieces_49 (by decide) ?_
                  refine lv_goto (tgt := 54) hx hb dX7_readPieces_50 (by decide) ?_
                  exact hJ54 _ (Or.inr rfl)  hf _ _ _ hP hD hS (lv_sub hl [0, 2, 3] rfl)
    refine lp18 _ (fun w18_4 w18_3 w18_st b01_w18_4 H locs ls  hP hD hS hl hf => ?_) (9) y16 z11_s0 x1 st b01_z11_s0 _ _ _ (by first | assumption | exact vin (by omega) (by omega) | omega) (by first | assumption | exact vin (by omega) (by omega) | omega) hP hD hS (lv_sub hl [0, 1, 2, 3] rfl) hf
    refine lv_iload hx hb dX7_readPieces_67 (lv_at hl 0 rfl) ?_
    refine lv_if_eq (tgt := 80) hx hb dX7_readPieces_69 (by decide) (fun c_6 => ?_) (fun c_6 => ?_)
    · have hf := kIt hf c_6
      have t_6 := ti_eq c_6
      refine lv_iconst (v := (0 : Int32)) hx hb dX7_readPieces_80 (by decide) ?_
      exact kRetZ hx hb hr hlk hP hD hS (Or.inl rfl) (kfst hf) ((congrArg (fun q => mW h ad ct q.2) hf).symm) hQ dX7_readPieces_81
    · have hf := kIf hf c_6
      have t_6 := ti_ne c_6
      refine lv_iload_n hx hb dX7_readPieces_72 rfl (lv_at hl 1 rfl) ?_
      refine lv_if_ne (tgt := 80) hx hb dX7_readPieces_73 (by decide) (fun c_7 => ?_) (fun c_7 => ?_)
      · have hf := kIf hf c_7
        have t_7 := ti_ne c_7
        refine lv_iconst (v := (0 : Int32)) hx hb dX7_readPieces_80 (by decide) ?_
        exact kRetZ hx hb hr hlk hP hD hS (Or.inl rfl) (kfst hf) ((congrArg (fun q => mW h ad ct q.2) hf).symm) hQ dX7_readPieces_81
      · have hf := kIt hf c_7
        have t_7 := ti_eq c_7
        refine lv_iconst (v := (1 : Int32)) hx hb dX7_readPieces_76 (by decide) ?_
        refine lv_goto (tgt := 81) hx hb dX7_readPieces_77 (by decide) ?_
        exact kRetZ hx hb hr hlk hP hD hS (Or.inr rfl) (kfst hf) ((congrArg (fun q => mW h ad ct q.2) hf).symm) hQ dX7_readPieces_81
  · intro j11 hJ11 hf
    refine lv_if_lt (tgt := 10) hx hb dX7_readPieces_3 (by decide) (fun c_1 => ?_) (fun c_1 => ?_)
    · have hf := kIt hf c_1
      have t_1 := ti_lt c_1
      refine lv_iconst (v := (0 : Int32)) hx hb dX7_readPieces_10 (by decide) ?_
      exact hJ11 _ (Or.inl rfl)  hf _ _ _ hP hD hS (lv_sub hl [0, 1, 3] rfl)
    · have hf := kIf hf c_1
      have t_1 := ti_nlt c_1
      refine lv_iconst (v := (1 : Int32)) hx hb dX7_readPieces_6 (by decide) ?_
      refine lv_goto (tgt := 11) hx hb dX7_readPieces_7 (by decide) ?_
      exact hJ11 _ (Or.inr rfl)  hf _ _ _ hP hD hS (lv_sub hl [0, 1, 3] rfl)
theorem kyX7_cutMore : kY yX7_cutMore cX7_cutMore 4 (some .int) wsX7_cutMore wsX7_cutMore.tail 3 := ⟨rfl, by decide, by decide, by decide +kernel⟩
set_option maxHeartbeats 4000000 in
set_option maxRecDepth 100000 in
theorem k_X7_cutMore (l : Launch) (D : va_G) (ct : ClassId × ClassId × ClassId) (z : Nat × Nat)  (x0 : Int32) (x1 : Int32) (x2 : Int32)  : kC l D ct z yX7_cutMore wsX7_cutMore 0 0 [.int x0, .int x1, .int x2] ([]) (some (.int (f_X7_cutMore x0 x1 x2))) ([]) := by
  refine kHead (cc := cX7_cutMore) (maxL := 4) (ret := (some .int)) [(0, .int x0), (1, .int x1), (2, .int x2)] (by decide) rfl (Nat.le_of_ble_eq_true rfl) rfl ?_
  intro p e s m args below meth c A ls R Q hRf hRl hQ hx hb hr hlk hml hown hts hA hS hK hP hD hl
  have kc0 : (0 : Int32).toInt = 0 := by decide
  have kc100 : (100 : Int32).toInt = 100 := by decide
  have hf : f_X7_cutMore x0 x1 x2 = f_X7_cutMore x0 x1 x2 := rfl
  refine lv_iload_n hx hb dX7_cutMore_0 rfl (lv_at hl 0 rfl) ?_
  refine lv_bipush (v := (100 : Int32)) hx hb dX7_cutMore_1 (by decide) ?_
  refine lv_irem hx hb dX7_cutMore_3 (by decide) ?_
  refine lv_iload_n hx hb dX7_cutMore_4 rfl (lv_at hl 1 rfl) ?_
  refine lv_iadd hx hb dX7_cutMore_5 ?_
  refine lv_topi (fun y6 ey6 => ?_)
  have hf := kLt hf ey6
  refine lv_istore_n (lv' := [(3, .int y6), (0, .int x0), (1, .int x1), (2, .int x2)]) hx hb dX7_cutMore_6 rfl hl (by decide) rfl (fun ls hl => ?_)
  refine lv_iload_n hx hb dX7_cutMore_7 rfl (lv_at hl 0 rfl) ?_
  refine lv_iload_n hx hb dX7_cutMore_8 rfl (lv_at hl 3 rfl) ?_
  refine lv_icmp_gt (tgt := 18) hx hb dX7_cutMore_9 (by decide) (fun c_1 => ?_) (fun c_1 => ?_)
  · have hf := kIt hf c_1
    have t_1 := ti_lt c_1
    refine lv_iload_n hx hb dX7_cutMore_18 rfl (lv_at hl 1 rfl) ?_
    refine lv_iload_n hx hb dX7_cutMore_19 rfl (lv_at hl 1 rfl) ?_
    refine lv_bipush (v := (100 : Int32)) hx hb dX7_cutMore_20 (by decide) ?_
    refine lv_irem hx hb dX7_cutMore_22 (by decide) ?_
    refine lv_isub hx hb dX7_cutMore_23 ?_
    refine lv_bipush (v := (100 : Int32)) hx hb dX7_cutMore_24 (by decide) ?_
    refine lv_iadd hx hb dX7_cutMore_26 ?_
    refine lv_iload_n hx hb dX7_cutMore_27 rfl (lv_at hl 2 rfl) ?_
    refine lv_iadd hx hb dX7_cutMore_28 ?_
    exact kRetI hx hb hr hlk hP hD hS hf.symm rfl hQ dX7_cutMore_29
  · have hf := kIf hf c_1
    have t_1 := ti_nlt c_1
    refine lv_iload_n hx hb dX7_cutMore_12 rfl (lv_at hl 1 rfl) ?_
    refine lv_iload_n hx hb dX7_cutMore_13 rfl (lv_at hl 2 rfl) ?_
    refine lv_iadd hx hb dX7_cutMore_14 ?_
    refine lv_goto (tgt := 29) hx hb dX7_cutMore_15 (by decide) ?_
    exact kRetI hx hb hr hlk hP hD hS hf.symm rfl hQ dX7_cutMore_29
theorem kyX7_ropesOf : kY yX7_ropesOf cX7_ropesOf 8 (some .int) wsX7_ropesOf wsX7_ropesOf.tail 2 := ⟨rfl, by decide, by decide, by decide +kernel⟩
set_option maxHeartbeats 4000000 in
set_option maxRecDepth 100000 in
theorem k_X7_ropesOf (l : Launch) (D : va_G) (ct : ClassId × ClassId × ClassId) (z : Nat × Nat) (h : Nat) (ad : Nat → Nat) (x1 : Int32) (x2 : Int32) (st : Nat → Nat → Int32) (hn : 1 ≤ Int32.toInt x1 ∧ Int32.toInt x1 ≤ 9) : kC l D ct z yX7_ropesOf wsX7_ropesOf 1 23 [.ref h, .int x1, .int x2] (mW h ad ct st) (some (.int ((f_X7_ropesOf x1 x2 st).1))) (mW h ad ct ((f_X7_ropesOf x1 x2 st).2)) := by
  refine kHead (cc := cX7_ropesOf) (maxL := 8) (ret := (some .int)) [(0, .ref h), (1, .int x1), (2, .int x2)] (by decide) rfl (Nat.le_of_ble_eq_true rfl) rfl ?_
  intro p e s m args below meth c A ls R Q hRf hRl hQ hx hb hr hlk hml hown hts hA hS hK hP hD hl
  have inX7 : ∀ w ∈ wsX70, w ∈ wsX7_ropesOf := fun w h => (List.mem_cons_of_mem _ (List.mem_append_right _ h))
  have hw1 := hts (Cond.fieldLink RX7 43 "MastPulpitsModel" "used" "[I") (List.mem_of_getElem? (i := 1) (by decide +kernel))
  have hw2 := hts (Cond.fieldLink RX7 40 "MastPulpitsModel" "pieces" "[I") (List.mem_of_getElem? (i := 2) (by decide +kernel))
  have kcm6 : (-6 : Int32).toInt = -6 := by decide
  have kcm1 : (-1 : Int32).toInt = -1 := by decide
  have kc0 : (0 : Int32).toInt = 0 := by decide
  have kc1 : (1 : Int32).toInt = 1 := by decide
  have kc100 : (100 : Int32).toInt = 100 := by decide
  have hsh : 1 ≤ Int32.toInt ((1 : Int32) <<< (x1 &&& 31)) ∧ Int32.toInt ((1 : Int32) <<< (x1 &&& 31)) ≤ 512 := shl_rng hn
  have hf : f_X7_ropesOf x1 x2 st = f_X7_ropesOf x1 x2 st := rfl
  refine lv_aload_n hx hb dX7_ropesOf_0 rfl (lv_at hl 0 rfl) ?_
  refine va_get (D := D) (cl := vwCl) (ci := 6) (v := .ref (ad 26)) (C := RX7) (T := TX7) (N := 34) hx hb hts inX7 hown hK.1 hP 0 (mO h ad ct st) rfl 26 (by decide) hw1 (fun _ h => h) (mF_26 ad st) dX7_ropesOf_1 ?_
  refine lv_iconst (v := (0 : Int32)) hx hb dX7_ropesOf_4 (by decide) ?_
  refine lv_iconst (v := (0 : Int32)) hx hb dX7_ropesOf_5 (by decide) ?_
  refine kIast (W1 := mW h ad ct (u2 st 27 0 (0 : Int32))) hx hb hK hP hD hS 12 (mA_26 h ad ct st) (by first | assumption | exact vin (by omega) (by omega) | omega) (mB_26 h ad ct st _ _) dX7_ropesOf_6 (fun H locs hP hD hS => ?_)
  refine lv_iconst (v := (1 : Int32)) hx hb dX7_ropesOf_7 (by decide) ?_
  refine lv_istore_n (lv' := [(3, .int (1 : Int32)), (0, .ref h), (1, .int x1), (2, .int x2)]) hx hb dX7_ropesOf_8 rfl hl (by decide) rfl (fun ls hl => ?_)
  have lp9 : ∀ (K : (Nat → Nat → Int32) → (Int32 × (Nat → Nat → Int32))), (∀ (z9_st : Nat → Nat → Int32), ∀ (H : Heap) (locs : List Loc) (ls : Array Slot), va_P D vwCl (mW h ad ct z9_st) H → va_D A (mW h ad ct z9_st) → va_S A s.heap H locs → lv_has ls 8 [(0, .ref h), (1, .int x1)] → f_X7_ropesOf x1 x2 st = K z9_st → W p l e R s m args below meth c H locs 0 0 Q (F0 m 128 ls [])) → ∀ (n : Nat) (z9_3 : Int32) (z9_st : Nat → Nat → Int32), ∀ (H : Heap) (locs : List Loc) (ls : Array Slot), (Int32.toInt ((1 : Int32) <<< (x1 &&& 31)) ≤ Int32.toInt z9_3 + (n : Int)) → (0 ≤ Int32.toInt z9_3) → va_P D vwCl (mW h ad ct z9_st) H → va_D A (mW h ad ct z9_st) → va_S A s.heap H locs → lv_has ls 8 [(3, .int z9_3), (0, .ref h), (1, .int x1), (2, .int x2)] → f_X7_ropesOf x1 x2 st = f_X7_ropesOf_L9 x1 x2 K n z9_3 z9_st → W p l e R s m args below meth c H locs 0 0 Q (F0 m 9 ls []) := by
    intro K hk n
    induction n with
    | zero =>
      intro z9_3 z9_st  H locs ls hn9 hz9 hP hD hS hl hf
      refine lv_iload_n hx hb dX7_ropesOf_9 rfl (lv_at hl 0 rfl) ?_
      refine lv_iconst (v := (1 : Int32)) hx hb dX7_ropesOf_10 (by decide) ?_
      refine lv_iload_n hx hb dX7_ropesOf_11 rfl (lv_at hl 2 rfl) ?_
      refine lv_ishl hx hb dX7_ropesOf_12 ?_
      refine lv_icmp_ge (tgt := 128) hx hb dX7_ropesOf_13 (by decide) (fun c_9 => ?_) (fun c_9 => ?_)
      · have t_9 := ti_le c_9
        exact hk _ _ _ _  hP hD hS (lv_sub hl [1, 2] rfl) hf
      · have t_9 := ti_nle c_9
        exfalso
        omega
    | succ n ih =>
      intro z9_3 z9_st  H locs ls hn9 hz9 hP hD hS hl hf
      refine lv_iload_n hx hb dX7_ropesOf_9 rfl (lv_at hl 0 rfl) ?_
      refine lv_iconst (v := (1 : Int32)) hx hb dX7_ropesOf_10 (by decide) ?_
      refine lv_iload_n hx hb dX7_ropesOf_11 rfl (lv_at hl 2 rfl) ?_
      refine lv_ishl hx hb dX7_ropesOf_12 ?_
      refine lv_icmp_ge (tgt := 128) hx hb dX7_ropesOf_13 (by decide) (fun c_1 => ?_) (fun c_1 => ?_)
      · have hf := kIt hf c_1
        have t_1 := ti_le c_1
        exact hk _ _ _ _  hP hD hS (lv_sub hl [1, 2] rfl) hf
      · have hf := kIf hf c_1
        have t_1 := ti_nle c_1
        refine lv_bipush (v := (-6 : Int32)) hx hb dX7_ropesOf_16 (by decide) ?_
        refine lv_istore (lv' := [(4, .int (-6 : Int32)), (3, .int z9_3), (0, .ref h), (1, .int x1), (2, .int x2)]) hx hb dX7_ropesOf_18 hl (by decide) rfl (fun ls hl => ?_)
        refine lv_iconst (v := (0 : Int32)) hx hb dX7_ropesOf_20 (by decide) ?_
        refine lv_istore (lv' := [(5, .int (0 : Int32)), (4, .int (-6 : Int32)), (3, .int z9_3), (0, .ref h), (1, .int x1), (2, .int x2)]) hx hb dX7_ropesOf_21 hl (by decide) rfl (fun ls hl => ?_)
        have lp23 : ∀ (K : Int32 → (Int32 × (Nat → Nat → Int32))), (∀ (z23_4 : Int32), ∀ (H : Heap) (locs : List Loc) (ls : Array Slot), va_P D vwCl (mW h ad ct z9_st) H → va_D A (mW h ad ct z9_st) → va_S A s.heap H locs → lv_has ls 8 [(4, .int z23_4), (3, .int z9_3), (0, .ref h), (1, .int x1), (2, .int x2)] → f_X7_ropesOf x1 x2 st = K z23_4 → W p l e R s m args below meth c H locs 0 0 Q (F0 m 114 ls [])) → ∀ (n : Nat) (z23_5 : Int32) (z23_4 : Int32), ∀ (H : Heap) (locs : List Loc) (ls : Array Slot), (Int32.toInt x1 ≤ Int32.toInt z23_5 + (n : Int)) → (0 ≤ Int32.toInt z23_5) → va_P D vwCl (mW h ad ct z9_st) H → va_D A (mW h ad ct z9_st) → va_S A s.heap H locs → lv_has ls 8 [(5, .int z23_5), (4, .int z23_4), (3, .int z9_3), (0, .ref h), (1, .int x1), (2, .int x2)] → f_X7_ropesOf x1 x2 st = f_X7_ropesOf_L23 x1 x2 z9_3 z9_st K n z23_5 z23_4 → W p l e R s m args below meth c H locs 0 0 Q (F0 m 23 ls []) := by
          intro K hk n
          induction n with
          | zero =>
            intro z23_5 z23_4  H locs ls hn23 hz23 hP hD hS hl hf
            refine lv_iload hx hb dX7_ropesOf_23 (lv_at hl 0 rfl) ?_
            refine lv_iload_n hx hb dX7_ropesOf_25 rfl (lv_at hl 4 rfl) ?_
            refine lv_icmp_ge (tgt := 114) hx hb dX7_ropesOf_26 (by decide) (fun c_8 => ?_) (fun c_8 => ?_)
            · have t_8 := ti_le c_8
              exact hk _ _ _ _  hP hD hS (lv_sub hl [1, 2, 3, 4, 5] rfl) hf
            · have t_8 := ti_nle c_8
              exfalso
              omega
          | succ n ih =>
            intro z23_5 z23_4  H locs ls hn23 hz23 hP hD hS hl hf
            refine lv_iload hx hb dX7_ropesOf_23 (lv_at hl 0 rfl) ?_
            refine lv_iload_n hx hb dX7_ropesOf_25 rfl (lv_at hl 4 rfl) ?_
            refine lv_icmp_ge (tgt := 114) hx hb dX7_ropesOf_26 (by decide) (fun c_2 => ?_) (fun c_2 => ?_)
            · have hf := kIt hf c_2
              have t_2 := ti_le c_2
              exact hk _ _ _ _  hP hD hS (lv_sub hl [1, 2, 3, 4, 5] rfl) hf
            · have hf := kIf hf c_2
              have t_2 := ti_nle c_2
              refine lv_iload_n hx hb dX7_ropesOf_29 rfl (lv_at hl 2 rfl) ?_
              refine lv_iload hx hb dX7_ropesOf_30 (lv_at hl 0 rfl) ?_
              refine lv_ishr hx hb dX7_ropesOf_32 ?_
              refine lv_iconst (v := (1 : Int32)) hx hb dX7_ropesOf_33 (by decide) ?_
              refine lv_iand hx hb dX7_ropesOf_34 ?_
              refine lv_iconst (v := (1 : Int32)) hx hb dX7_ropesOf_35 (by decide) ?_
              refine kJn hf (fun j0 => ∀ (z44_s0 : Int32), (z44_s0 = 0 ∨ z44_s0 = 1) → f_X7_ropesOf x1 x2 st = j0 z44_s0 → ∀ (H : Heap) (locs : List Loc) (ls : Array Slot), va_P D vwCl (mW h ad ct z9_st) H → va_D A (mW h ad ct z9_st) → va_S A s.heap H locs → lv_has ls 8 [(5, .int z23_5), (4, .int z23_4), (3, .int z9_3), (0, .ref h), (1, .int x1), (2, .int x2)] → W p l e R s m args below meth c H locs 0 0 Q (F0 m 44 ls [.int z44_s0])) ?_ ?_
              · intro j0 hj0 z44_s0 b01_z44_s0 hf H locs ls hP hD hS hl
                subst hj0
                refine lv_istore (lv' := [(6, .int z44_s0), (5, .int z23_5), (4, .int z23_4), (3, .int z9_3), (0, .ref h), (1, .int x1), (2, .int x2)]) hx hb dX7_ropesOf_44 hl (by decide) rfl (fun ls hl => ?_)
                refine lv_iload hx hb dX7_ropesOf_46 (lv_at hl 0 rfl) ?_
                refine kJn hf (fun j0 => ∀ (z80_s0 : Int32), f_X7_ropesOf x1 x2 st = j0 z80_s0 → ∀ (H : Heap) (locs : List Loc) (ls : Array Slot), va_P D vwCl (mW h ad ct z9_st) H → va_D A (mW h ad ct z9_st) → va_S A s.heap H locs → lv_has ls 8 [(6, .int z44_s0), (5, .int z23_5), (4, .int z23_4), (3, .int z9_3), (0, .ref h), (1, .int x1), (2, .int x2)] → W p l e R s m args below meth c H locs 0 0 Q (F0 m 80 ls [.int z80_s0])) ?_ ?_
                · intro j0 hj0 z80_s0  hf H locs ls hP hD hS hl
                  subst hj0
                  refine lv_istore (lv' := [(7, .int z80_s0), (6, .int z44_s0), (5, .int z23_5), (4, .int z23_4), (3, .int z9_3), (0, .ref h), (1, .int x1), (2, .int x2)]) hx hb dX7_ropesOf_80 hl (by decide) rfl (fun ls hl => ?_)
                  refine lv_iload hx hb dX7_ropesOf_82 (lv_at hl 1 rfl) ?_
                  refine kJn hf (fun j0 => ∀ (z106_s0 : Int32), f_X7_ropesOf x1 x2 st = j0 z106_s0 → ∀ (H : Heap) (locs : List Loc) (ls : Array Slot), va_P D vwCl (mW h ad ct z9_st) H → va_D A (mW h ad ct z9_st) → va_S A s.heap H locs → lv_has ls 8 [(5, .int z23_5), (3, .int z9_3), (0, .ref h), (1, .int x1), (2, .int x2)] → W p l e R s m args below meth c H locs 0 0 Q (F0 m 106 ls [.int z106_s0])) ?_ ?_
                  · intro j0 hj0 z106_s0  hf H locs ls hP hD hS hl
                    subst hj0
                    refine lv_istore (lv' := [(4, .int z106_s0), (5, .int z23_5), (3, .int z9_3), (0, .ref h), (1, .int x1), (2, .int x2)]) hx hb dX7_ropesOf_106 hl (by decide) rfl (fun ls hl => ?_)
                    obtain ⟨y108, ey108⟩ : ∃ y : Int32, y = z23_5 + (1 : Int32) := ⟨_, rfl⟩
                    have hf := kLt hf ey108
                    have a108 : Int32.toInt y108 = Int32.toInt z23_5 + 1 := by have := ti_rng z23_5; rw [ey108]; exact ti_add (by rw [kc1]) (by omega) (by omega)
                    refine lv_iinc (v := y108) (lv' := [(5, .int y108), (4, .int z106_s0), (3, .int z9_3), (0, .ref h), (1, .int x1), (2, .int x2)]) hx hb dX7_ropesOf_108 hl (k := 1) rfl (by rw [ey108]; rfl) (by decide) rfl (fun ls hl => ?_)
                    refine lv_goto (tgt := 23) hx hb dX7_ropesOf_111 (by decide) ?_
                    exact ih y108 z106_s0 _ _ _ (by first | assumption | exact vin (by omega) (by omega) | omega) (by first | assumption | exact vin (by omega) (by omega) | omega) hP hD hS (lv_sub hl [0, 1, 2, 3, 4, 5] rfl) hf
                  · intro j106 hJ106 hf
                    refine kJn hf (fun j0 => ∀ (u0 : Unit), f_X7_ropesOf x1 x2 st = j0 () → ∀ (H : Heap) (locs : List Loc) (ls : Array Slot), va_P D vwCl (mW h ad ct z9_st) H → va_D A (mW h ad ct z9_st) → va_S A s.heap H locs → lv_has ls 8 [(5, .int z23_5), (4, .int z23_4), (3, .int z9_3), (0, .ref h), (1, .int x1), (2, .int x2)] → W p l e R s m args below meth c H locs 0 0 Q (F0 m 104 ls [])) ?_ ?_
                    · intro j0 hj0 u0  hf H locs ls hP hD hS hl
                      subst hj0
                      refine lv_iload hx hb dX7_ropesOf_104 (lv_at hl 1 rfl) ?_
                      exact hJ106 _  hf _ _ _ hP hD hS (lv_sub hl [0, 2, 3, 4, 5] rfl)
                    · intro j104 hJ104 hf
                      refine lv_if_eq (tgt := 104) hx hb dX7_ropesOf_84 (by decide) (fun c_5 => ?_) (fun c_5 => ?_)
                      · have hf := kIt hf c_5
                        have t_5 := ti_eq c_5
                        exact hJ104 ()  hf _ _ _ hP hD hS (lv_sub hl [2, 3, 4, 5, 6, 7] rfl)
                      · have hf := kIf hf c_5
                        have t_5 := ti_ne c_5
                        refine lv_iload hx hb dX7_ropesOf_87 (lv_at hl 3 rfl) ?_
                        refine kJn hf (fun j0 => ∀ (u0 : Unit), f_X7_ropesOf x1 x2 st = j0 () → ∀ (H : Heap) (locs : List Loc) (ls : Array Slot), va_P D vwCl (mW h ad ct z9_st) H → va_D A (mW h ad ct z9_st) → va_S A s.heap H locs → lv_has ls 8 [(7, .int z80_s0), (5, .int z23_5), (3, .int z9_3), (0, .ref h), (1, .int x1), (2, .int x2)] → W p l e R s m args below meth c H locs 0 0 Q (F0 m 99 ls [])) ?_ ?_
                        · intro j0 hj0 u0  hf H locs ls hP hD hS hl
                          subst hj0
                          refine lv_iload hx hb dX7_ropesOf_99 (lv_at hl 0 rfl) ?_
                          refine lv_goto (tgt := 106) hx hb dX7_ropesOf_101 (by decide) ?_
                          exact hJ106 _  hf _ _ _ hP hD hS (lv_sub hl [1, 2, 3, 4, 5] rfl)
                        · intro j99 hJ99 hf
                          refine lv_if_lt (tgt := 99) hx hb dX7_ropesOf_89 (by decide) (fun c_6 => ?_) (fun c_6 => ?_)
                          · have hf := kIt hf c_6
                            have t_6 := ti_lt c_6
                            exact hJ99 ()  hf _ _ _ hP hD hS (lv_sub hl [0, 2, 4, 5, 6, 7] rfl)
                          · have hf := kIf hf c_6
                            have t_6 := ti_nlt c_6
                            refine lv_iload hx hb dX7_ropesOf_92 (lv_at hl 0 rfl) ?_
                            refine lv_iload hx hb dX7_ropesOf_94 (lv_at hl 3 rfl) ?_
                            refine lv_icmp_ge (tgt := 104) hx hb dX7_ropesOf_96 (by decide) (fun c_7 => ?_) (fun c_7 => ?_)
                            · have hf := kIt hf c_7
                              have t_7 := ti_le c_7
                              exact hJ104 ()  hf _ _ _ hP hD hS (lv_sub hl [2, 3, 4, 5, 6, 7] rfl)
                            · have hf := kIf hf c_7
                              have t_7 := ti_nle c_7
                              exact hJ99 ()  hf _ _ _ hP hD hS (lv_sub hl [0, 2, 4, 5, 6, 7] rfl)
                · intro j80 hJ80 hf
                  refine lv_if_eq (tgt := 78) hx hb dX7_ropesOf_48 (by decide) (fun c_4 => ?_) (fun c_4 => ?_)
                  · have hf := kIt hf c_4
                    have t_4 := ti_eq c_4
                    refine lv_bipush (v := (-6 : Int32)) hx hb dX7_ropesOf_78 (by decide) ?_
                    exact hJ80 _  hf _ _ _ hP hD hS (lv_sub hl [0, 1, 2, 3, 4, 5, 6] rfl)
                  · have hf := kIf hf c_4
                    have t_4 := ti_ne c_4
                    refine lv_aload_n hx hb dX7_ropesOf_51 rfl (lv_at hl 4 rfl) ?_
                    refine va_get (D := D) (cl := vwCl) (ci := 6) (v := .ref (ad 26)) (C := RX7) (T := TX7) (N := 34) hx hb hts inX7 hown hK.1 hP 0 (mO h ad ct z9_st) rfl 26 (by decide) hw1 (fun _ h => h) (mF_26 ad z9_st) dX7_ropesOf_52 ?_
                    refine lv_iload_n hx hb dX7_ropesOf_55 rfl (lv_at hl 3 rfl) ?_
                    refine lv_iconst (v := (1 : Int32)) hx hb dX7_ropesOf_56 (by decide) ?_
                    refine lv_iload hx hb dX7_ropesOf_57 (lv_at hl 1 rfl) ?_
                    refine lv_ishl hx hb dX7_ropesOf_59 ?_
                    refine lv_iconst (v := (-1 : Int32)) hx hb dX7_ropesOf_60 (by decide) ?_
                    refine lv_ixor hx hb dX7_ropesOf_61 ?_
                    refine lv_iand hx hb dX7_ropesOf_62 ?_
                    refine va_iald hx hb hK.1 hP 12 0 (mA_26 h ad ct z9_st) rfl (and_in (by omega) (by omega)) dX7_ropesOf_63 ?_
                    refine lv_aload_n hx hb dX7_ropesOf_64 rfl (lv_at hl 4 rfl) ?_
                    refine va_get (D := D) (cl := vwCl) (ci := 6) (v := .ref (ad 25)) (C := RX7) (T := TX7) (N := 34) hx hb hts inX7 hown hK.1 hP 0 (mO h ad ct z9_st) rfl 25 (by decide) hw2 (fun _ h => h) (mF_25 ad z9_st) dX7_ropesOf_65 ?_
                    refine lv_iload hx hb dX7_ropesOf_68 (lv_at hl 1 rfl) ?_
                    refine va_iald hx hb hK.1 hP 11 0 (mA_25 h ad ct z9_st) rfl (by first | assumption | exact vin (by omega) (by omega) | omega) dX7_ropesOf_70 ?_
                    refine lv_iload_n hx hb dX7_ropesOf_71 rfl (lv_at hl 6 rfl) ?_
                    have hM : kC l D ct z yX7_cutMore wsX7_cutMore 0 0 [.int (z9_st 27 (Int32.toNatClampNeg (z9_3 &&& ((jshl (1 : Int32) z23_5) ^^^ (-1 : Int32))))), .int (z9_st 26 (Int32.toNatClampNeg z23_5)), .int x2] ([]) (some (.int (f_X7_cutMore (z9_st 27 (Int32.toNatClampNeg (z9_3 &&& ((jshl (1 : Int32) z23_5) ^^^ (-1 : Int32))))) (z9_st 26 (Int32.toNatClampNeg z23_5)) x2))) ([]) := k_X7_cutMore l D ct z (z9_st 27 (Int32.toNatClampNeg (z9_3 &&& ((jshl (1 : Int32) z23_5) ^^^ (-1 : Int32))))) (z9_st 26 (Int32.toNatClampNeg z23_5)) x2
                    refine kS0 (As := [.int (z9_st 27 (Int32.toNatClampNeg (z9_3 &&& ((jshl (1 : Int32) z23_5) ^^^ (-1 : Int32))))), .int (z9_st 26 (Int32.toNatClampNeg z23_5)), .int x2]) (rest := []) ⟨hx, hb, hml, hown, hts⟩ hM gX7_ropesOf_X7_cutMore kyX7_cutMore (by rw [hRf, hRl]; exact ⟨Nat.le_of_ble_eq_true rfl, Nat.le_of_ble_eq_true rfl⟩) hK hP hD hS hA rfl hl.1 rfl (st1 := [.int (f_X7_cutMore (z9_st 27 (Int32.toNatClampNeg (z9_3 &&& ((jshl (1 : Int32) z23_5) ^^^ (-1 : Int32))))) (z9_st 26 (Int32.toNatClampNeg z23_5)) x2)]) rfl rfl ⟨Nat.zero_le _, Nat.zero_le _⟩ dX7_ropesOf_72 (fun H locs hP hD hS => ?_)
                    refine lv_goto (tgt := 80) hx hb dX7_ropesOf_75 (by decide) ?_
                    exact hJ80 _  hf _ _ _ hP hD hS (lv_sub hl [0, 1, 2, 3, 4, 5, 6] rfl)
              · intro j44 hJ44 hf
                refine lv_icmp_ne (tgt := 43) hx hb dX7_ropesOf_36 (by decide) (fun c_3 => ?_) (fun c_3 => ?_)
                · have hf := kIf hf c_3
                  have t_3 := ti_ne c_3
                  refine lv_iconst (v := (0 : Int32)) hx hb dX7_ropesOf_43 (by decide) ?_
                  exact hJ44 _ (Or.inl rfl)  hf _ _ _ hP hD hS (lv_sub hl [0, 1, 2, 3, 4, 5] rfl)
                · have hf := kIt hf c_3
                  have t_3 := ti_eq c_3
                  refine lv_iconst (v := (1 : Int32)) hx hb dX7_ropesOf_39 (by decide) ?_
                  refine lv_goto (tgt := 44) hx hb dX7_ropesOf_40 (by decide) ?_
                  exact hJ44 _ (Or.inr rfl)  hf _ _ _ hP hD hS (lv_sub hl [0, 1, 2, 3, 4, 5] rfl)
        refine lp23 _ (fun w23_4  H locs ls  hP hD hS hl hf => ?_) (9) (0 : Int32) (-6 : Int32)  _ _ _ (by first | assumption | exact vin (by omega) (by omega) | omega) (by first | assumption | exact vin (by omega) (by omega) | omega) hP hD hS (lv_sub hl [0, 1, 2, 3, 4, 5] rfl) hf
        refine lv_aload_n hx hb dX7_ropesOf_114 rfl (lv_at hl 2 rfl) ?_
        refine va_get (D := D) (cl := vwCl) (ci := 6) (v := .ref (ad 26)) (C := RX7) (T := TX7) (N := 34) hx hb hts inX7 hown hK.1 hP 0 (mO h ad ct z9_st) rfl 26 (by decide) hw1 (fun _ h => h) (mF_26 ad z9_st) dX7_ropesOf_115 ?_
        refine lv_iload_n hx hb dX7_ropesOf_118 rfl (lv_at hl 1 rfl) ?_
        refine lv_iload hx hb dX7_ropesOf_119 (lv_at hl 0 rfl) ?_
        refine kIast (W1 := mW h ad ct (u2 z9_st 27 ((Int32.toNatClampNeg z9_3)) w23_4)) hx hb hK hP hD hS 12 (mA_26 h ad ct z9_st) (by first | assumption | exact vin (by omega) (by omega) | omega) (mB_26 h ad ct z9_st _ _) dX7_ropesOf_121 (fun H locs hP hD hS => ?_)
        obtain ⟨y122, ey122⟩ : ∃ y : Int32, y = z9_3 + (1 : Int32) := ⟨_, rfl⟩
        have hf := kLt hf ey122
        have a122 : Int32.toInt y122 = Int32.toInt z9_3 + 1 := by have := ti_rng z9_3; rw [ey122]; exact ti_add (by rw [kc1]) (by omega) (by omega)
        refine lv_iinc (v := y122) (lv' := [(3, .int y122), (4, .int w23_4), (0, .ref h), (1, .int x1), (2, .int x2)]) hx hb dX7_ropesOf_122 hl (k := 1) rfl (by rw [ey122]; rfl) (by decide) rfl (fun ls hl => ?_)
        refine lv_goto (tgt := 9) hx hb dX7_ropesOf_125 (by decide) ?_
        exact ih y122 (u2 z9_st 27 ((Int32.toNatClampNeg z9_3)) w23_4) _ _ _ (by first | assumption | exact vin (by omega) (by omega) | omega) (by first | assumption | exact vin (by omega) (by omega) | omega) hP hD hS (lv_sub hl [0, 2, 3, 4] rfl) hf
  refine lp9 _ (fun w9_st  H locs ls  hP hD hS hl hf => ?_) (512) (1 : Int32) (u2 st 27 0 (0 : Int32))  _ _ _ (by first | assumption | exact vin (by omega) (by omega) | omega) (by first | assumption | exact vin (by omega) (by omega) | omega) hP hD hS (lv_sub hl [0, 1, 2, 3] rfl) hf
  refine lv_iconst (v := (1 : Int32)) hx hb dX7_ropesOf_128 (by decide) ?_
  refine lv_aload_n hx hb dX7_ropesOf_129 rfl (lv_at hl 0 rfl) ?_
  refine va_get (D := D) (cl := vwCl) (ci := 6) (v := .ref (ad 26)) (C := RX7) (T := TX7) (N := 34) hx hb hts inX7 hown hK.1 hP 0 (mO h ad ct w9_st) rfl 26 (by decide) hw1 (fun _ h => h) (mF_26 ad w9_st) dX7_ropesOf_130 ?_
  refine lv_iconst (v := (1 : Int32)) hx hb dX7_ropesOf_133 (by decide) ?_
  refine lv_iload_n hx hb dX7_ropesOf_134 rfl (lv_at hl 1 rfl) ?_
  refine lv_ishl hx hb dX7_ropesOf_135 ?_
  refine lv_iconst (v := (1 : Int32)) hx hb dX7_ropesOf_136 (by decide) ?_
  refine lv_isub hx hb dX7_ropesOf_137 ?_
  refine va_iald hx hb hK.1 hP 12 0 (mA_26 h ad ct w9_st) rfl (by have e : Int32.toInt (((1 : Int32) <<< (x1 &&& 31)) - (1 : Int32)) = Int32.toInt ((1 : Int32) <<< (x1 &&& 31)) - 1 := ti_sub (by rw [kc1]) (by omega) (by omega); exact vin (by omega) (by omega)) dX7_ropesOf_138 ?_
  refine lv_bipush (v := (100 : Int32)) hx hb dX7_ropesOf_139 (by decide) ?_
  refine lv_idiv hx hb dX7_ropesOf_141 (by decide) ?_
  refine lv_iadd hx hb dX7_ropesOf_142 ?_
  exact kRetI hx hb hr hlk hP hD hS (kfst hf) ((congrArg (fun q => mW h ad ct q.2) hf).symm) hQ dX7_ropesOf_143
theorem kyX7_mostPieces : kY yX7_mostPieces cX7_mostPieces 7 (some .int) wsX7_mostPieces wsX7_mostPieces.tail 2 := ⟨rfl, by decide, by decide, by decide +kernel⟩
set_option maxHeartbeats 4000000 in
set_option maxRecDepth 100000 in
theorem k_X7_mostPieces (l : Launch) (D : va_G) (ct : ClassId × ClassId × ClassId) (z : Nat × Nat) (h : Nat) (ad : Nat → Nat) (x1 : Int32) (x2 : Int32) (st : Nat → Nat → Int32) (hn : Int32.toInt x1 ≤ 9) : kC l D ct z yX7_mostPieces wsX7_mostPieces 0 0 [.ref h, .int x1, .int x2] (mW h ad ct st) (some (.int (f_X7_mostPieces x1 x2 st))) (mW h ad ct st) := by
  refine kHead (cc := cX7_mostPieces) (maxL := 7) (ret := (some .int)) [(0, .ref h), (1, .int x1), (2, .int x2)] (by decide) rfl (Nat.le_of_ble_eq_true rfl) rfl ?_
  intro p e s m args below meth c A ls R Q hRf hRl hQ hx hb hr hlk hml hown hts hA hS hK hP hD hl
  have inX7 : ∀ w ∈ wsX70, w ∈ wsX7_mostPieces := fun w h => (List.mem_cons_of_mem _ (List.mem_append_right _ h))
  have hw1 := hts (Cond.fieldLink RX7 40 "MastPulpitsModel" "pieces" "[I") (List.mem_of_getElem? (i := 1) (by decide +kernel))
  have kc0 : (0 : Int32).toInt = 0 := by decide
  have kc1 : (1 : Int32).toInt = 1 := by decide
  have kc10 : (10 : Int32).toInt = 10 := by decide
  have hf : f_X7_mostPieces x1 x2 st = f_X7_mostPieces x1 x2 st := rfl
  refine lv_iconst (v := (0 : Int32)) hx hb dX7_mostPieces_0 (by decide) ?_
  refine lv_istore_n (lv' := [(3, .int (0 : Int32)), (0, .ref h), (1, .int x1), (2, .int x2)]) hx hb dX7_mostPieces_1 rfl hl (by decide) rfl (fun ls hl => ?_)
  refine lv_iconst (v := (0 : Int32)) hx hb dX7_mostPieces_2 (by decide) ?_
  refine lv_istore (lv' := [(4, .int (0 : Int32)), (3, .int (0 : Int32)), (0, .ref h), (1, .int x1), (2, .int x2)]) hx hb dX7_mostPieces_3 hl (by decide) rfl (fun ls hl => ?_)
  refine lv_iconst (v := (1 : Int32)) hx hb dX7_mostPieces_5 (by decide) ?_
  refine lv_istore (lv' := [(5, .int (1 : Int32)), (4, .int (0 : Int32)), (3, .int (0 : Int32)), (0, .ref h), (1, .int x1), (2, .int x2)]) hx hb dX7_mostPieces_6 hl (by decide) rfl (fun ls hl => ?_)
  have lp8 : ∀ (K : Int32 → Int32), (∀ (z8_3 : Int32), ∀ (H : Heap) (locs : List Loc) (ls : Array Slot), va_P D vwCl (mW h ad ct st) H → va_D A (mW h ad ct st) → va_S A s.heap H locs → lv_has ls 7 [(3, .int z8_3)] → f_X7_mostPieces x1 x2 st = K z8_3 → W p l e R s m args below meth c H locs 0 0 Q (F0 m 67 ls [])) → ∀ (n : Nat) (z8_5 : Int32) (z8_4 : Int32) (z8_3 : Int32), ∀ (H : Heap) (locs : List Loc) (ls : Array Slot), (10 ≤ Int32.toInt z8_5 + (n : Int)) → va_P D vwCl (mW h ad ct st) H → va_D A (mW h ad ct st) → va_S A s.heap H locs → lv_has ls 7 [(5, .int z8_5), (4, .int z8_4), (3, .int z8_3), (0, .ref h), (1, .int x1), (2, .int x2)] → f_X7_mostPieces x1 x2 st = f_X7_mostPieces_L8 x1 x2 st K n z8_5 z8_4 z8_3 → W p l e R s m args below meth c H locs 0 0 Q (F0 m 8 ls []) := by
    intro K hk n
    induction n with
    | zero =>
      intro z8_5 z8_4 z8_3  H locs ls hn8 hP hD hS hl hf
      refine lv_iload hx hb dX7_mostPieces_8 (lv_at hl 0 rfl) ?_
      refine lv_bipush (v := (10 : Int32)) hx hb dX7_mostPieces_10 (by decide) ?_
      refine lv_icmp_ge (tgt := 67) hx hb dX7_mostPieces_12 (by decide) (fun c_6 => ?_) (fun c_6 => ?_)
      · have t_6 := ti_le c_6
        exact hk _ _ _ _  hP hD hS (lv_sub hl [2] rfl) hf
      · have t_6 := ti_nle c_6
        exfalso
        omega
    | succ n ih =>
      intro z8_5 z8_4 z8_3  H locs ls hn8 hP hD hS hl hf
      refine lv_iload hx hb dX7_mostPieces_8 (lv_at hl 0 rfl) ?_
      refine lv_bipush (v := (10 : Int32)) hx hb dX7_mostPieces_10 (by decide) ?_
      refine lv_icmp_ge (tgt := 67) hx hb dX7_mostPieces_12 (by decide) (fun c_1 => ?_) (fun c_1 => ?_)
      · have hf := kIt hf c_1
        have t_1 := ti_le c_1
        exact hk _ _ _ _  hP hD hS (lv_sub hl [2] rfl) hf
      · have hf := kIf hf c_1
        have t_1 := ti_nle c_1
        refine lv_iconst (v := (0 : Int32)) hx hb dX7_mostPieces_15 (by decide) ?_
        refine lv_istore (lv' := [(6, .int (0 : Int32)), (5, .int z8_5), (4, .int z8_4), (3, .int z8_3), (0, .ref h), (1, .int x1), (2, .int x2)]) hx hb dX7_mostPieces_16 hl (by decide) rfl (fun ls hl => ?_)
        have lp18 : ∀ (K : Int32 → Int32 → Int32), (∀ (z18_4 : Int32) (z18_3 : Int32), ∀ (H : Heap) (locs : List Loc) (ls : Array Slot), va_P D vwCl (mW h ad ct st) H → va_D A (mW h ad ct st) → va_S A s.heap H locs → lv_has ls 7 [(5, .int z8_5), (4, .int z18_4), (3, .int z18_3), (0, .ref h), (1, .int x1), (2, .int x2)] → f_X7_mostPieces x1 x2 st = K z18_4 z18_3 → W p l e R s m args below meth c H locs 0 0 Q (F0 m 61 ls [])) → ∀ (n : Nat) (z18_6 : Int32) (z18_4 : Int32) (z18_3 : Int32), ∀ (H : Heap) (locs : List Loc) (ls : Array Slot), (Int32.toInt x1 ≤ Int32.toInt z18_6 + (n : Int)) → (0 ≤ Int32.toInt z18_6) → va_P D vwCl (mW h ad ct st) H → va_D A (mW h ad ct st) → va_S A s.heap H locs → lv_has ls 7 [(6, .int z18_6), (5, .int z8_5), (4, .int z18_4), (3, .int z18_3), (0, .ref h), (1, .int x1), (2, .int x2)] → f_X7_mostPieces x1 x2 st = f_X7_mostPieces_L18 x1 x2 st z8_5 K n z18_6 z18_4 z18_3 → W p l e R s m args below meth c H locs 0 0 Q (F0 m 18 ls []) := by
          intro K hk n
          induction n with
          | zero =>
            intro z18_6 z18_4 z18_3  H locs ls hn18 hz18 hP hD hS hl hf
            refine lv_iload hx hb dX7_mostPieces_18 (lv_at hl 0 rfl) ?_
            refine lv_iload_n hx hb dX7_mostPieces_20 rfl (lv_at hl 5 rfl) ?_
            refine lv_icmp_ge (tgt := 61) hx hb dX7_mostPieces_21 (by decide) (fun c_5 => ?_) (fun c_5 => ?_)
            · have t_5 := ti_le c_5
              exact hk _ _ _ _ _  hP hD hS (lv_sub hl [1, 2, 3, 4, 5, 6] rfl) hf
            · have t_5 := ti_nle c_5
              exfalso
              omega
          | succ n ih =>
            intro z18_6 z18_4 z18_3  H locs ls hn18 hz18 hP hD hS hl hf
            refine lv_iload hx hb dX7_mostPieces_18 (lv_at hl 0 rfl) ?_
            refine lv_iload_n hx hb dX7_mostPieces_20 rfl (lv_at hl 5 rfl) ?_
            refine lv_icmp_ge (tgt := 61) hx hb dX7_mostPieces_21 (by decide) (fun c_2 => ?_) (fun c_2 => ?_)
            · have hf := kIt hf c_2
              have t_2 := ti_le c_2
              exact hk _ _ _ _ _  hP hD hS (lv_sub hl [1, 2, 3, 4, 5, 6] rfl) hf
            · have hf := kIf hf c_2
              have t_2 := ti_nle c_2
              refine lv_aload_n hx hb dX7_mostPieces_24 rfl (lv_at hl 4 rfl) ?_
              refine va_get (D := D) (cl := vwCl) (ci := 6) (v := .ref (ad 25)) (C := RX7) (T := TX7) (N := 34) hx hb hts inX7 hown hK.1 hP 0 (mO h ad ct st) rfl 25 (by decide) hw1 (fun _ h => h) (mF_25 ad st) dX7_mostPieces_25 ?_
              refine lv_iload hx hb dX7_mostPieces_28 (lv_at hl 0 rfl) ?_
              refine va_iald hx hb hK.1 hP 11 0 (mA_25 h ad ct st) rfl (by first | assumption | exact vin (by omega) (by omega) | omega) dX7_mostPieces_30 ?_
              refine lv_iload hx hb dX7_mostPieces_31 (lv_at hl 1 rfl) ?_
              refine kJn hf (fun j0 => ∀ (z55_4 : Int32) (z55_3 : Int32), f_X7_mostPieces x1 x2 st = j0 z55_4 z55_3 → ∀ (H : Heap) (locs : List Loc) (ls : Array Slot), va_P D vwCl (mW h ad ct st) H → va_D A (mW h ad ct st) → va_S A s.heap H locs → lv_has ls 7 [(6, .int z18_6), (5, .int z8_5), (4, .int z55_4), (3, .int z55_3), (0, .ref h), (1, .int x1), (2, .int x2)] → W p l e R s m args below meth c H locs 0 0 Q (F0 m 55 ls [])) ?_ ?_
              · intro j0 hj0 z55_4 z55_3  hf H locs ls hP hD hS hl
                subst hj0
                obtain ⟨y55, ey55⟩ : ∃ y : Int32, y = z18_6 + (1 : Int32) := ⟨_, rfl⟩
                have hf := kLt hf ey55
                have a55 : Int32.toInt y55 = Int32.toInt z18_6 + 1 := by have := ti_rng z18_6; rw [ey55]; exact ti_add (by rw [kc1]) (by omega) (by omega)
                refine lv_iinc (v := y55) (lv' := [(6, .int y55), (5, .int z8_5), (4, .int z55_4), (3, .int z55_3), (0, .ref h), (1, .int x1), (2, .int x2)]) hx hb dX7_mostPieces_55 hl (k := 0) rfl (by rw [ey55]; rfl) (by decide) rfl (fun ls hl => ?_)
                refine lv_goto (tgt := 18) hx hb dX7_mostPieces_58 (by decide) ?_
                exact ih y55 z55_4 z55_3 _ _ _ (by first | assumption | exact vin (by omega) (by omega) | omega) (by first | assumption | exact vin (by omega) (by omega) | omega) hP hD hS (lv_sub hl [0, 1, 2, 3, 4, 5, 6] rfl) hf
              · intro j55 hJ55 hf
                refine lv_icmp_ne (tgt := 55) hx hb dX7_mostPieces_33 (by decide) (fun c_3 => ?_) (fun c_3 => ?_)
                · have hf := kIf hf c_3
                  have t_3 := ti_ne c_3
                  exact hJ55 _ _  hf _ _ _ hP hD hS (lv_sub hl [0, 1, 2, 3, 4, 5, 6] rfl)
                · have hf := kIt hf c_3
                  have t_3 := ti_eq c_3
                  refine lv_iload hx hb dX7_mostPieces_36 (lv_at hl 2 rfl) ?_
                  refine lv_iload hx hb dX7_mostPieces_38 (lv_at hl 1 rfl) ?_
                  refine lv_iadd hx hb dX7_mostPieces_40 ?_
                  refine lv_iload_n hx hb dX7_mostPieces_41 rfl (lv_at hl 6 rfl) ?_
                  refine lv_icmp_gt (tgt := 55) hx hb dX7_mostPieces_42 (by decide) (fun c_4 => ?_) (fun c_4 => ?_)
                  · have hf := kIt hf c_4
                    have t_4 := ti_lt c_4
                    exact hJ55 _ _  hf _ _ _ hP hD hS (lv_sub hl [0, 1, 2, 3, 4, 5, 6] rfl)
                  · have hf := kIf hf c_4
                    have t_4 := ti_nlt c_4
                    refine lv_iload hx hb dX7_mostPieces_45 (lv_at hl 2 rfl) ?_
                    refine lv_iload hx hb dX7_mostPieces_47 (lv_at hl 1 rfl) ?_
                    refine lv_iadd hx hb dX7_mostPieces_49 ?_
                    refine lv_topi (fun y50 ey50 => ?_)
                    have hf := kLt hf ey50
                    refine lv_istore (lv' := [(4, .int y50), (6, .int z18_6), (5, .int z8_5), (3, .int z18_3), (0, .ref h), (1, .int x1), (2, .int x2)]) hx hb dX7_mostPieces_50 hl (by decide) rfl (fun ls hl => ?_)
                    obtain ⟨y52, ey52⟩ : ∃ y : Int32, y = z18_3 + (1 : Int32) := ⟨_, rfl⟩
                    have hf := kLt hf ey52
                    refine lv_iinc (v := y52) (lv' := [(3, .int y52), (4, .int y50), (6, .int z18_6), (5, .int z8_5), (0, .ref h), (1, .int x1), (2, .int x2)]) hx hb dX7_mostPieces_52 hl (k := 3) rfl (by rw [ey52]; rfl) (by decide) rfl (fun ls hl => ?_)
                    exact hJ55 _ _  hf _ _ _ hP hD hS (lv_sub hl [2, 3, 1, 0, 4, 5, 6] rfl)
        refine lp18 _ (fun w18_4 w18_3  H locs ls  hP hD hS hl hf => ?_) (9) (0 : Int32) z8_4 z8_3  _ _ _ (by first | assumption | exact vin (by omega) (by omega) | omega) (by first | assumption | exact vin (by omega) (by omega) | omega) hP hD hS (lv_sub hl [0, 1, 2, 3, 4, 5, 6] rfl) hf
        obtain ⟨y61, ey61⟩ : ∃ y : Int32, y = z8_5 + (1 : Int32) := ⟨_, rfl⟩
        have hf := kLt hf ey61
        have a61 : Int32.toInt y61 = Int32.toInt z8_5 + 1 := by have := ti_rng z8_5; rw [ey61]; exact ti_add (by rw [kc1]) (by omega) (by omega)
        refine lv_iinc (v := y61) (lv' := [(5, .int y61), (4, .int w18_4), (3, .int w18_3), (0, .ref h), (1, .int x1), (2, .int x2)]) hx hb dX7_mostPieces_61 hl (k := 0) rfl (by rw [ey61]; rfl) (by decide) rfl (fun ls hl => ?_)
        refine lv_goto (tgt := 8) hx hb dX7_mostPieces_64 (by decide) ?_
        exact ih y61 w18_4 w18_3 _ _ _ (by first | assumption | exact vin (by omega) (by omega) | omega) hP hD hS (lv_sub hl [0, 1, 2, 3, 4, 5] rfl) hf
  refine lp8 _ (fun w8_3  H locs ls  hP hD hS hl hf => ?_) (9) (1 : Int32) (0 : Int32) (0 : Int32)  _ _ _ (by first | assumption | exact vin (by omega) (by omega) | omega) hP hD hS (lv_sub hl [0, 1, 2, 3, 4, 5] rfl) hf
  refine lv_iload_n hx hb dX7_mostPieces_67 rfl (lv_at hl 0 rfl) ?_
  exact kRetI hx hb hr hlk hP hD hS hf.symm rfl hQ dX7_mostPieces_68
theorem kyX7_ropes : kY yX7_ropes cX7_ropes 5 (some .int) wsX7_ropes wsX7_ropes.tail 4 := ⟨rfl, by decide, by decide, by decide +kernel⟩
set_option maxHeartbeats 4000000 in
set_option maxRecDepth 100000 in
theorem k_X7_ropes (l : Launch) (D : va_G) (ct : ClassId × ClassId × ClassId) (z : Nat × Nat) (h : Nat) (ad : Nat → Nat) (x1 : Int32) (x2 : Int32) (x3 : Int32) (x4 : Int32) (st : Nat → Nat → Int32)  : kC l D ct z yX7_ropes wsX7_ropes 2 50 [.ref h, .int x1, .int x2, .int x3, .int x4] (mW h ad ct st) (some (.int ((f_X7_ropes x1 x2 x3 x4 st).1))) (mW h ad ct ((f_X7_ropes x1 x2 x3 x4 st).2)) := by
  refine kHead (cc := cX7_ropes) (maxL := 5) (ret := (some .int)) [(0, .ref h), (1, .int x1), (2, .int x2), (3, .int x3), (4, .int x4)] (by decide) rfl (Nat.le_of_ble_eq_true rfl) rfl ?_
  intro p e s m args below meth c A ls R Q hRf hRl hQ hx hb hr hlk hml hown hts hA hS hK hP hD hl
  have hw1 := hts (Cond.constantLong RX7 100 (9)) (List.mem_of_getElem? (i := 1) (by decide +kernel))
  have hw2 := hts (Cond.constantLong RX7 245 (30)) (List.mem_of_getElem? (i := 2) (by decide +kernel))
  have kcm2 : (-2 : Int32).toInt = -2 := by decide
  have kc0 : (0 : Int32).toInt = 0 := by decide
  have kl0 : (0 : Int64).toInt = 0 := by decide
  have kl1 : (1 : Int64).toInt = 1 := by decide
  have kl9 : (9 : Int64).toInt = 9 := by decide
  have kl30 : (30 : Int64).toInt = 30 := by decide
  have hf : f_X7_ropes x1 x2 x3 x4 st = f_X7_ropes x1 x2 x3 x4 st := rfl
  refine lv_iload_n hx hb dX7_ropes_0 rfl (lv_at hl 2 rfl) ?_
  refine lv_i2l (v := (Int32.toInt64 x2)) hx hb dX7_ropes_1 rfl ?_
  refine lv_lconst (v := (1 : Int64)) hx hb dX7_ropes_2 (by decide) ?_
  refine lv_ldc2 (v := (9 : Int64)) hx hb hown hw1 dX7_ropes_3 ?_
  have hM : kC l D ct z yX7_in wsX7_in 0 0 [.long (Int32.toInt64 x2), .long (1 : Int64), .long (9 : Int64)] ([]) (some (.int (f_X7_in (Int32.toInt64 x2) (1 : Int64) (9 : Int64)))) ([]) := k_X7_in l D ct z (Int32.toInt64 x2) (1 : Int64) (9 : Int64)
  refine kS0 (As := [.long (Int32.toInt64 x2), .long (1 : Int64), .long (9 : Int64)]) (rest := []) ⟨hx, hb, hml, hown, hts⟩ hM gX7_ropes_X7_in kyX7_in (by rw [hRf, hRl]; exact ⟨Nat.le_of_ble_eq_true rfl, Nat.le_of_ble_eq_true rfl⟩) hK hP hD hS hA rfl hl.1 rfl (st1 := [.int (f_X7_in (Int32.toInt64 x2) (1 : Int64) (9 : Int64))]) rfl rfl ⟨Nat.zero_le _, Nat.zero_le _⟩ dX7_ropes_6 (fun H locs hP hD hS => ?_)
  refine lv_if_eq (tgt := 46) hx hb dX7_ropes_9 (by decide) (fun c_1 => ?_) (fun c_1 => ?_)
  · have hf := kIt hf c_1
    have t_1 := ti_eq c_1
    refine lv_bipush (v := (-2 : Int32)) hx hb dX7_ropes_46 (by decide) ?_
    exact kRetI hx hb hr hlk hP hD hS (kfst hf) ((congrArg (fun q => mW h ad ct q.2) hf).symm) hQ dX7_ropes_48
  · have hf := kIf hf c_1
    have t_1 := ti_ne c_1; have w_1 := in_nz c_1
    refine lv_aload_n hx hb dX7_ropes_12 rfl (lv_at hl 0 rfl) ?_
    refine lv_iload_n hx hb dX7_ropes_13 rfl (lv_at hl 1 rfl) ?_
    refine lv_iload_n hx hb dX7_ropes_14 rfl (lv_at hl 2 rfl) ?_
    obtain ⟨q15, eq15⟩ : ∃ y, y = f_X7_readPieces x1 x2 st := ⟨_, rfl⟩
    have hf := kLt hf eq15
    have hM : kC l D ct z yX7_readPieces wsX7_readPieces 0 0 [.ref h, .int x1, .int x2] (mW h ad ct st) (some (.int q15.1)) (mW h ad ct q15.2) := by rw [eq15]; exact k_X7_readPieces l D ct z h ad x1 x2 st (by first | assumption | exact vin (by omega) (by omega) | omega)
    refine kV1 (As := [.int x1, .int x2]) (rest := []) ⟨hx, hb, hml, hown, hts⟩ hM gX7_ropes_X7_readPieces kyX7_readPieces (by rw [hRf, hRl]; exact ⟨Nat.le_of_ble_eq_true rfl, Nat.le_of_ble_eq_true rfl⟩) hK hP hD hS hA 0 (mO h ad ct st) rfl rfl rfl hl.1 rfl (st1 := [.int q15.1]) rfl rfl ⟨Nat.zero_le _, Nat.zero_le _⟩ dX7_ropes_15 (fun H locs hP hD hS => ?_)
    refine lv_if_eq (tgt := 46) hx hb dX7_ropes_18 (by decide) (fun c_2 => ?_) (fun c_2 => ?_)
    · have hf := kIt hf c_2
      have t_2 := ti_eq c_2
      refine lv_bipush (v := (-2 : Int32)) hx hb dX7_ropes_46 (by decide) ?_
      exact kRetI hx hb hr hlk hP hD hS (kfst hf) ((congrArg (fun q => mW h ad ct q.2) hf).symm) hQ dX7_ropes_48
    · have hf := kIf hf c_2
      have t_2 := ti_ne c_2
      refine lv_iload_n hx hb dX7_ropes_21 rfl (lv_at hl 3 rfl) ?_
      refine lv_i2l (v := (Int32.toInt64 x3)) hx hb dX7_ropes_22 rfl ?_
      refine lv_ldc2 (v := (9 : Int64)) hx hb hown hw1 dX7_ropes_23 ?_
      refine lv_ldc2 (v := (30 : Int64)) hx hb hown hw2 dX7_ropes_26 ?_
      have hM : kC l D ct z yX7_in wsX7_in 0 0 [.long (Int32.toInt64 x3), .long (9 : Int64), .long (30 : Int64)] ([]) (some (.int (f_X7_in (Int32.toInt64 x3) (9 : Int64) (30 : Int64)))) ([]) := k_X7_in l D ct z (Int32.toInt64 x3) (9 : Int64) (30 : Int64)
      refine kS0 (As := [.long (Int32.toInt64 x3), .long (9 : Int64), .long (30 : Int64)]) (rest := []) ⟨hx, hb, hml, hown, hts⟩ hM gX7_ropes_X7_in kyX7_in (by rw [hRf, hRl]; exact ⟨Nat.le_of_ble_eq_true rfl, Nat.le_of_ble_eq_true rfl⟩) hK hP hD hS hA rfl hl.1 rfl (st1 := [.int (f_X7_in (Int32.toInt64 x3) (9 : Int64) (30 : Int64))]) rfl rfl ⟨Nat.zero_le _, Nat.zero_le _⟩ dX7_ropes_29 (fun H locs hP hD hS => ?_)
      refine lv_if_eq (tgt := 46) hx hb dX7_ropes_32 (by decide) (fun c_3 => ?_) (fun c_3 => ?_)
      · have hf := kIt hf c_3
        have t_3 := ti_eq c_3
        refine lv_bipush (v := (-2 : Int32)) hx hb dX7_ropes_46 (by decide) ?_
        exact kRetI hx hb hr hlk hP hD hS (kfst hf) ((congrArg (fun q => mW h ad ct q.2) hf).symm) hQ dX7_ropes_48
      · have hf := kIf hf c_3
        have t_3 := ti_ne c_3; have w_3 := in_nz c_3
        refine lv_iload hx hb dX7_ropes_35 (lv_at hl 4 rfl) ?_
        refine lv_i2l (v := (Int32.toInt64 x4)) hx hb dX7_ropes_37 rfl ?_
        refine lv_lconst (v := (0 : Int64)) hx hb dX7_ropes_38 (by decide) ?_
        refine lv_lconst (v := (1 : Int64)) hx hb dX7_ropes_39 (by decide) ?_
        have hM : kC l D ct z yX7_in wsX7_in 0 0 [.long (Int32.toInt64 x4), .long (0 : Int64), .long (1 : Int64)] ([]) (some (.int (f_X7_in (Int32.toInt64 x4) (0 : Int64) (1 : Int64)))) ([]) := k_X7_in l D ct z (Int32.toInt64 x4) (0 : Int64) (1 : Int64)
        refine kS0 (As := [.long (Int32.toInt64 x4), .long (0 : Int64), .long (1 : Int64)]) (rest := []) ⟨hx, hb, hml, hown, hts⟩ hM gX7_ropes_X7_in kyX7_in (by rw [hRf, hRl]; exact ⟨Nat.le_of_ble_eq_true rfl, Nat.le_of_ble_eq_true rfl⟩) hK hP hD hS hA rfl hl.1 rfl (st1 := [.int (f_X7_in (Int32.toInt64 x4) (0 : Int64) (1 : Int64))]) rfl rfl ⟨Nat.zero_le _, Nat.zero_le _⟩ dX7_ropes_40 (fun H locs hP hD hS => ?_)
        refine lv_if_ne (tgt := 49) hx hb dX7_ropes_43 (by decide) (fun c_4 => ?_) (fun c_4 => ?_)
        · have hf := kIf hf c_4
          have t_4 := ti_ne c_4; have w_4 := in_nz c_4
          refine lv_iload hx hb dX7_ropes_49 (lv_at hl 4 rfl) ?_
          refine lv_if_ne (tgt := 63) hx hb dX7_ropes_51 (by decide) (fun c_5 => ?_) (fun c_5 => ?_)
          · have hf := kIf hf c_5
            have t_5 := ti_ne c_5
            refine lv_aload_n hx hb dX7_ropes_63 rfl (lv_at hl 0 rfl) ?_
            refine lv_iload_n hx hb dX7_ropes_64 rfl (lv_at hl 2 rfl) ?_
            refine lv_iload_n hx hb dX7_ropes_65 rfl (lv_at hl 3 rfl) ?_
            have hM : kC l D ct z yX7_mostPieces wsX7_mostPieces 0 0 [.ref h, .int x2, .int x3] (mW h ad ct q15.2) (some (.int (f_X7_mostPieces x2 x3 q15.2))) (mW h ad ct q15.2) := k_X7_mostPieces l D ct z h ad x2 x3 q15.2 (by first | assumption | exact vin (by omega) (by omega) | omega)
            refine kV1 (As := [.int x2, .int x3]) (rest := []) ⟨hx, hb, hml, hown, hts⟩ hM gX7_ropes_X7_mostPieces kyX7_mostPieces (by rw [hRf, hRl]; exact ⟨Nat.le_of_ble_eq_true rfl, Nat.le_of_ble_eq_true rfl⟩) hK hP hD hS hA 0 (mO h ad ct q15.2) rfl rfl rfl hl.1 rfl (st1 := [.int (f_X7_mostPieces x2 x3 q15.2)]) rfl rfl ⟨Nat.zero_le _, Nat.zero_le _⟩ dX7_ropes_66 (fun H locs hP hD hS => ?_)
            exact kRetI hx hb hr hlk hP hD hS (kfst hf) ((congrArg (fun q => mW h ad ct q.2) hf).symm) hQ dX7_ropes_69
          · have hf := kIt hf c_5
            have t_5 := ti_eq c_5
            refine lv_aload_n hx hb dX7_ropes_54 rfl (lv_at hl 0 rfl) ?_
            refine lv_iload_n hx hb dX7_ropes_55 rfl (lv_at hl 2 rfl) ?_
            refine lv_iload_n hx hb dX7_ropes_56 rfl (lv_at hl 3 rfl) ?_
            obtain ⟨q57, eq57⟩ : ∃ y, y = f_X7_ropesOf x2 x3 q15.2 := ⟨_, rfl⟩
            have hf := kLt hf eq57
            have hM : kC l D ct z yX7_ropesOf wsX7_ropesOf 1 23 [.ref h, .int x2, .int x3] (mW h ad ct q15.2) (some (.int q57.1)) (mW h ad ct q57.2) := by rw [eq57]; exact k_X7_ropesOf l D ct z h ad x2 x3 q15.2 (by first | assumption | exact vin (by omega) (by omega) | omega)
            refine kV1 (As := [.int x2, .int x3]) (rest := []) ⟨hx, hb, hml, hown, hts⟩ hM gX7_ropes_X7_ropesOf kyX7_ropesOf (by rw [hRf, hRl]; exact ⟨Nat.le_of_ble_eq_true rfl, Nat.le_of_ble_eq_true rfl⟩) hK hP hD hS hA 0 (mO h ad ct q15.2) rfl rfl rfl hl.1 rfl (st1 := [.int q57.1]) rfl rfl ⟨Nat.zero_le _, Nat.zero_le _⟩ dX7_ropes_57 (fun H locs hP hD hS => ?_)
            refine lv_goto (tgt := 69) hx hb dX7_ropes_60 (by decide) ?_
            exact kRetI hx hb hr hlk hP hD hS (kfst hf) ((congrArg (fun q => mW h ad ct q.2) hf).symm) hQ dX7_ropes_69
        · have hf := kIt hf c_4
          have t_4 := ti_eq c_4
          refine lv_bipush (v := (-2 : Int32)) hx hb dX7_ropes_46 (by decide) ?_
          exact kRetI hx hb hr hlk hP hD hS (kfst hf) ((congrArg (fun q => mW h ad ct q.2) hf).symm) hQ dX7_ropes_48
theorem kyX7_look : kY yX7_look cX7_look 4 (some .int) wsX7_look wsX7_look.tail 3 := ⟨rfl, by decide, by decide, by decide +kernel⟩
set_option maxHeartbeats 4000000 in
set_option maxRecDepth 100000 in
theorem k_X7_look (l : Launch) (D : va_G) (ct : ClassId × ClassId × ClassId) (z : Nat × Nat) (h : Nat) (ad : Nat → Nat) (x1 : Int32) (x2 : Int32) (x3 : Int32) (st : Nat → Nat → Int32) (hs : 0 ≤ Int32.toInt (st 0 11) ∧ Int32.toInt (st 0 11) ≤ 8) : kC l D ct z yX7_look wsX7_look 2 45 [.ref h, .int x1, .int x2, .int x3] (mW h ad ct st) (some (.int ((f_X7_look x1 x2 x3 st).1))) (mW h ad ct ((f_X7_look x1 x2 x3 st).2)) := by
  refine kHead (cc := cX7_look) (maxL := 4) (ret := (some .int)) [(0, .ref h), (1, .int x1), (2, .int x2), (3, .int x3)] (by decide) rfl (Nat.le_of_ble_eq_true rfl) rfl ?_
  intro p e s m args below meth c A ls R Q hRf hRl hQ hx hb hr hlk hml hown hts hA hS hK hP hD hl
  have inX7 : ∀ w ∈ wsX70, w ∈ wsX7_look := fun w h => (List.mem_cons_of_mem _ (List.mem_append_right _ h))
  have hw1 := hts (Cond.constantLong RX7 75 (7)) (List.mem_of_getElem? (i := 1) (by decide +kernel))
  have hw2 := hts (Cond.fieldLink RX7 253 "MastPulpitsModel" "sights" "I") (List.mem_of_getElem? (i := 2) (by decide +kernel))
  have hw3 := hts (Cond.fieldLink RX7 16 "MastPulpitsModel" "sightCell" "[I") (List.mem_of_getElem? (i := 3) (by decide +kernel))
  have hw4 := hts (Cond.fieldLink RX7 19 "MastPulpitsModel" "sightGlass" "[I") (List.mem_of_getElem? (i := 4) (by decide +kernel))
  have hw5 := hts (Cond.fieldLink RX7 22 "MastPulpitsModel" "sightSees" "[I") (List.mem_of_getElem? (i := 5) (by decide +kernel))
  have kcm4 : (-4 : Int32).toInt = -4 := by decide
  have kcm2 : (-2 : Int32).toInt = -2 := by decide
  have kcm1 : (-1 : Int32).toInt = -1 := by decide
  have kc0 : (0 : Int32).toInt = 0 := by decide
  have kc1 : (1 : Int32).toInt = 1 := by decide
  have kc8 : (8 : Int32).toInt = 8 := by decide
  have kl0 : (0 : Int64).toInt = 0 := by decide
  have kl7 : (7 : Int64).toInt = 7 := by decide
  have hf : f_X7_look x1 x2 x3 st = f_X7_look x1 x2 x3 st := rfl
  refine lv_iload_n hx hb dX7_look_0 rfl (lv_at hl 1 rfl) ?_
  have hM : kC l D ct z yX7_isCell wsX7_isCell 1 25 [.int x1] ([]) (some (.int (f_X7_isCell x1))) ([]) := k_X7_isCell l D ct z x1
  refine kS0 (As := [.int x1]) (rest := []) ⟨hx, hb, hml, hown, hts⟩ hM gX7_look_X7_isCell kyX7_isCell (by rw [hRf, hRl]; exact ⟨Nat.le_of_ble_eq_true rfl, Nat.le_of_ble_eq_true rfl⟩) hK hP hD hS hA rfl hl.1 rfl (st1 := [.int (f_X7_isCell x1)]) rfl rfl ⟨Nat.zero_le _, Nat.zero_le _⟩ dX7_look_1 (fun H locs hP hD hS => ?_)
  refine lv_if_ne (tgt := 9) hx hb dX7_look_4 (by decide) (fun c_1 => ?_) (fun c_1 => ?_)
  · have hf := kIf hf c_1
    have t_1 := ti_ne c_1; have w_1 := mcell_nz c_1
    refine lv_iload_n hx hb dX7_look_9 rfl (lv_at hl 2 rfl) ?_
    refine lv_i2l (v := (Int32.toInt64 x2)) hx hb dX7_look_10 rfl ?_
    refine lv_lconst (v := (0 : Int64)) hx hb dX7_look_11 (by decide) ?_
    refine lv_ldc2 (v := (7 : Int64)) hx hb hown hw1 dX7_look_12 ?_
    have hM : kC l D ct z yX7_in wsX7_in 0 0 [.long (Int32.toInt64 x2), .long (0 : Int64), .long (7 : Int64)] ([]) (some (.int (f_X7_in (Int32.toInt64 x2) (0 : Int64) (7 : Int64)))) ([]) := k_X7_in l D ct z (Int32.toInt64 x2) (0 : Int64) (7 : Int64)
    refine kS0 (As := [.long (Int32.toInt64 x2), .long (0 : Int64), .long (7 : Int64)]) (rest := []) ⟨hx, hb, hml, hown, hts⟩ hM gX7_look_X7_in kyX7_in (by rw [hRf, hRl]; exact ⟨Nat.le_of_ble_eq_true rfl, Nat.le_of_ble_eq_true rfl⟩) hK hP hD hS hA rfl hl.1 rfl (st1 := [.int (f_X7_in (Int32.toInt64 x2) (0 : Int64) (7 : Int64))]) rfl rfl ⟨Nat.zero_le _, Nat.zero_le _⟩ dX7_look_15 (fun H locs hP hD hS => ?_)
    refine lv_if_ne (tgt := 24) hx hb dX7_look_18 (by decide) (fun c_2 => ?_) (fun c_2 => ?_)
    · have hf := kIf hf c_2
      have t_2 := ti_ne c_2; have w_2 := in_nz c_2
      refine lv_aload_n hx hb dX7_look_24 rfl (lv_at hl 0 rfl) ?_
      refine va_get (D := D) (cl := vwCl) (ci := 6) (v := .int (st 0 11)) (C := RX7) (T := TX7) (N := 34) hx hb hts inX7 hown hK.1 hP 0 (mO h ad ct st) rfl 11 (by decide) hw2 (fun _ h => h) (mF_11 ad st) dX7_look_25 ?_
      refine lv_bipush (v := (8 : Int32)) hx hb dX7_look_28 (by decide) ?_
      refine lv_icmp_ne (tgt := 36) hx hb dX7_look_30 (by decide) (fun c_3 => ?_) (fun c_3 => ?_)
      · have hf := kIf hf c_3
        have t_3 := ti_ne c_3
        refine lv_aload_n hx hb dX7_look_36 rfl (lv_at hl 0 rfl) ?_
        refine va_get (D := D) (cl := vwCl) (ci := 6) (v := .ref (ad 8)) (C := RX7) (T := TX7) (N := 34) hx hb hts inX7 hown hK.1 hP 0 (mO h ad ct st) rfl 8 (by decide) hw3 (fun _ h => h) (mF_8 ad st) dX7_look_37 ?_
        refine lv_aload_n hx hb dX7_look_40 rfl (lv_at hl 0 rfl) ?_
        refine va_get (D := D) (cl := vwCl) (ci := 6) (v := .int (st 0 11)) (C := RX7) (T := TX7) (N := 34) hx hb hts inX7 hown hK.1 hP 0 (mO h ad ct st) rfl 11 (by decide) hw2 (fun _ h => h) (mF_11 ad st) dX7_look_41 ?_
        refine lv_iload_n hx hb dX7_look_44 rfl (lv_at hl 1 rfl) ?_
        refine kIast (W1 := mW h ad ct (u2 st 9 ((Int32.toNatClampNeg (st 0 11))) x1)) hx hb hK hP hD hS 3 (mA_8 h ad ct st) (by first | assumption | exact vin (by omega) (by omega) | omega) (mB_8 h ad ct st _ _) dX7_look_45 (fun H locs hP hD hS => ?_)
        refine lv_aload_n hx hb dX7_look_46 rfl (lv_at hl 0 rfl) ?_
        refine va_get (D := D) (cl := vwCl) (ci := 6) (v := .ref (ad 9)) (C := RX7) (T := TX7) (N := 34) hx hb hts inX7 hown hK.1 hP 0 (mO h ad ct (u2 st 9 ((Int32.toNatClampNeg (st 0 11))) x1)) rfl 9 (by decide) hw4 (fun _ h => h) (mF_9 ad (u2 st 9 ((Int32.toNatClampNeg (st 0 11))) x1)) dX7_look_47 ?_
        refine lv_aload_n hx hb dX7_look_50 rfl (lv_at hl 0 rfl) ?_
        refine va_get (D := D) (cl := vwCl) (ci := 6) (v := .int (st 0 11)) (C := RX7) (T := TX7) (N := 34) hx hb hts inX7 hown hK.1 hP 0 (mO h ad ct (u2 st 9 ((Int32.toNatClampNeg (st 0 11))) x1)) rfl 11 (by decide) hw2 (fun _ h => h) (mF_11 ad (u2 st 9 ((Int32.toNatClampNeg (st 0 11))) x1)) dX7_look_51 ?_
        refine lv_iload_n hx hb dX7_look_54 rfl (lv_at hl 2 rfl) ?_
        refine kIast (W1 := mW h ad ct (u2 (u2 st 9 ((Int32.toNatClampNeg (st 0 11))) x1) 10 ((Int32.toNatClampNeg (st 0 11))) x2)) hx hb hK hP hD hS 4 (mA_9 h ad ct (u2 st 9 ((Int32.toNatClampNeg (st 0 11))) x1)) (by first | assumption | exact vin (by omega) (by omega) | omega) (mB_9 h ad ct (u2 st 9 ((Int32.toNatClampNeg (st 0 11))) x1) _ _) dX7_look_55 (fun H locs hP hD hS => ?_)
        refine lv_aload_n hx hb dX7_look_56 rfl (lv_at hl 0 rfl) ?_
        refine va_get (D := D) (cl := vwCl) (ci := 6) (v := .ref (ad 10)) (C := RX7) (T := TX7) (N := 34) hx hb hts inX7 hown hK.1 hP 0 (mO h ad ct (u2 (u2 st 9 ((Int32.toNatClampNeg (st 0 11))) x1) 10 ((Int32.toNatClampNeg (st 0 11))) x2)) rfl 10 (by decide) hw5 (fun _ h => h) (mF_10 ad (u2 (u2 st 9 ((Int32.toNatClampNeg (st 0 11))) x1) 10 ((Int32.toNatClampNeg (st 0 11))) x2)) dX7_look_57 ?_
        refine lv_aload_n hx hb dX7_look_60 rfl (lv_at hl 0 rfl) ?_
        refine va_get (D := D) (cl := vwCl) (ci := 6) (v := .int (st 0 11)) (C := RX7) (T := TX7) (N := 34) hx hb hts inX7 hown hK.1 hP 0 (mO h ad ct (u2 (u2 st 9 ((Int32.toNatClampNeg (st 0 11))) x1) 10 ((Int32.toNatClampNeg (st 0 11))) x2)) rfl 11 (by decide) hw2 (fun _ h => h) (mF_11 ad (u2 (u2 st 9 ((Int32.toNatClampNeg (st 0 11))) x1) 10 ((Int32.toNatClampNeg (st 0 11))) x2)) dX7_look_61 ?_
        refine lv_iload_n hx hb dX7_look_64 rfl (lv_at hl 3 rfl) ?_
        refine kJn hf (fun j0 => ∀ (z73_s0 : Int32), (z73_s0 = 0 ∨ z73_s0 = 1) → f_X7_look x1 x2 x3 st = j0 z73_s0 → ∀ (H : Heap) (locs : List Loc) (ls : Array Slot), va_P D vwCl (mW h ad ct (u2 (u2 st 9 ((Int32.toNatClampNeg (st 0 11))) x1) 10 ((Int32.toNatClampNeg (st 0 11))) x2)) H → va_D A (mW h ad ct (u2 (u2 st 9 ((Int32.toNatClampNeg (st 0 11))) x1) 10 ((Int32.toNatClampNeg (st 0 11))) x2)) → va_S A s.heap H locs → lv_has ls 4 [(0, .ref h)] → W p l e R s m args below meth c H locs 0 0 Q (F0 m 73 ls [.int z73_s0, .int (st 0 11), .ref (ad 10)])) ?_ ?_
        · intro j0 hj0 z73_s0 b01_z73_s0 hf H locs ls hP hD hS hl
          subst hj0
          refine kIast (W1 := mW h ad ct (u2 (u2 (u2 st 9 ((Int32.toNatClampNeg (st 0 11))) x1) 10 ((Int32.toNatClampNeg (st 0 11))) x2) 11 ((Int32.toNatClampNeg (st 0 11))) z73_s0)) hx hb hK hP hD hS 5 (mA_10 h ad ct (u2 (u2 st 9 ((Int32.toNatClampNeg (st 0 11))) x1) 10 ((Int32.toNatClampNeg (st 0 11))) x2)) (by first | assumption | exact vin (by omega) (by omega) | omega) (mB_10 h ad ct (u2 (u2 st 9 ((Int32.toNatClampNeg (st 0 11))) x1) 10 ((Int32.toNatClampNeg (st 0 11))) x2) _ _) dX7_look_73 (fun H locs hP hD hS => ?_)
          refine lv_aload_n hx hb dX7_look_74 rfl (lv_at hl 0 rfl) ?_
          refine lv_dup hx hb dX7_look_75 rfl ?_
          refine va_get (D := D) (cl := vwCl) (ci := 6) (v := .int (st 0 11)) (C := RX7) (T := TX7) (N := 34) hx hb hts inX7 hown hK.1 hP 0 (mO h ad ct (u2 (u2 (u2 st 9 ((Int32.toNatClampNeg (st 0 11))) x1) 10 ((Int32.toNatClampNeg (st 0 11))) x2) 11 ((Int32.toNatClampNeg (st 0 11))) z73_s0)) rfl 11 (by decide) hw2 (fun _ h => h) (mF_11 ad (u2 (u2 (u2 st 9 ((Int32.toNatClampNeg (st 0 11))) x1) 10 ((Int32.toNatClampNeg (st 0 11))) x2) 11 ((Int32.toNatClampNeg (st 0 11))) z73_s0)) dX7_look_76 ?_
          refine lv_iconst (v := (1 : Int32)) hx hb dX7_look_79 (by decide) ?_
          refine lv_iadd hx hb dX7_look_80 ?_
          refine lv_topi (fun y81 ey81 => ?_)
          have hf := kLt hf ey81
          refine kPut (ci := 6) (C := RX7) (T := TX7) (N := 34) (ty := .int) (v := .int y81) (W1 := mW h ad ct (u2 (u2 (u2 (u2 st 9 ((Int32.toNatClampNeg (st 0 11))) x1) 10 ((Int32.toNatClampNeg (st 0 11))) x2) 11 ((Int32.toNatClampNeg (st 0 11))) z73_s0) 0 11 y81)) hx hb hts inX7 tyX7 tyX7_ok nmX7 hown hK hP hD hS 0 (mO h ad ct (u2 (u2 (u2 st 9 ((Int32.toNatClampNeg (st 0 11))) x1) 10 ((Int32.toNatClampNeg (st 0 11))) x2) 11 ((Int32.toNatClampNeg (st 0 11))) z73_s0)) rfl 11 (by decide) hw2 (fun _ h => h) rfl (by decide +kernel) rfl rfl (mLn 11 ad (u2 (u2 (u2 st 9 ((Int32.toNatClampNeg (st 0 11))) x1) 10 ((Int32.toNatClampNeg (st 0 11))) x2) 11 ((Int32.toNatClampNeg (st 0 11))) z73_s0) (by decide)) (mS_11 h ad ct (u2 (u2 (u2 st 9 ((Int32.toNatClampNeg (st 0 11))) x1) 10 ((Int32.toNatClampNeg (st 0 11))) x2) 11 ((Int32.toNatClampNeg (st 0 11))) z73_s0) y81) dX7_look_81 (fun H locs hP hD hS => ?_)
          refine lv_aload_n hx hb dX7_look_84 rfl (lv_at hl 0 rfl) ?_
          refine va_get (D := D) (cl := vwCl) (ci := 6) (v := .int y81) (C := RX7) (T := TX7) (N := 34) hx hb hts inX7 hown hK.1 hP 0 (mO h ad ct (u2 (u2 (u2 (u2 st 9 ((Int32.toNatClampNeg (st 0 11))) x1) 10 ((Int32.toNatClampNeg (st 0 11))) x2) 11 ((Int32.toNatClampNeg (st 0 11))) z73_s0) 0 11 y81)) rfl 11 (by decide) hw2 (fun _ h => h) (mF_11 ad (u2 (u2 (u2 (u2 st 9 ((Int32.toNatClampNeg (st 0 11))) x1) 10 ((Int32.toNatClampNeg (st 0 11))) x2) 11 ((Int32.toNatClampNeg (st 0 11))) z73_s0) 0 11 y81)) dX7_look_85 ?_
          exact kRetI hx hb hr hlk hP hD hS (kfst hf) ((congrArg (fun q => mW h ad ct q.2) hf).symm) hQ dX7_look_88
        · intro j73 hJ73 hf
          refine lv_if_eq (tgt := 72) hx hb dX7_look_65 (by decide) (fun c_4 => ?_) (fun c_4 => ?_)
          · have hf := kIt hf c_4
            have t_4 := ti_eq c_4
            refine lv_iconst (v := (0 : Int32)) hx hb dX7_look_72 (by decide) ?_
            exact hJ73 _ (Or.inl rfl)  hf _ _ _ hP hD hS (lv_sub hl [0] rfl)
          · have hf := kIf hf c_4
            have t_4 := ti_ne c_4
            refine lv_iconst (v := (1 : Int32)) hx hb dX7_look_68 (by decide) ?_
            refine lv_goto (tgt := 73) hx hb dX7_look_69 (by decide) ?_
            exact hJ73 _ (Or.inr rfl)  hf _ _ _ hP hD hS (lv_sub hl [0] rfl)
      · have hf := kIt hf c_3
        have t_3 := ti_eq c_3
        refine lv_bipush (v := (-4 : Int32)) hx hb dX7_look_33 (by decide) ?_
        exact kRetI hx hb hr hlk hP hD hS (kfst hf) ((congrArg (fun q => mW h ad ct q.2) hf).symm) hQ dX7_look_35
    · have hf := kIt hf c_2
      have t_2 := ti_eq c_2
      refine lv_bipush (v := (-2 : Int32)) hx hb dX7_look_21 (by decide) ?_
      exact kRetI hx hb hr hlk hP hD hS (kfst hf) ((congrArg (fun q => mW h ad ct q.2) hf).symm) hQ dX7_look_23
  · have hf := kIt hf c_1
    have t_1 := ti_eq c_1
    refine lv_iconst (v := (-1 : Int32)) hx hb dX7_look_7 (by decide) ?_
    exact kRetI hx hb hr hlk hP hD hS (kfst hf) ((congrArg (fun q => mW h ad ct q.2) hf).symm) hQ dX7_look_8
theorem kyX7_forget : kY yX7_forget cX7_forget 2 (some .int) wsX7_forget wsX7_forget.tail 0 := ⟨rfl, by decide, by decide, by decide +kernel⟩
set_option maxHeartbeats 4000000 in
set_option maxRecDepth 100000 in
theorem k_X7_forget (l : Launch) (D : va_G) (ct : ClassId × ClassId × ClassId) (z : Nat × Nat) (h : Nat) (ad : Nat → Nat) (st : Nat → Nat → Int32)  : kC l D ct z yX7_forget wsX7_forget 0 0 [.ref h] (mW h ad ct st) (some (.int ((f_X7_forget st).1))) (mW h ad ct ((f_X7_forget st).2)) := by
  refine kHead (cc := cX7_forget) (maxL := 2) (ret := (some .int)) [(0, .ref h)] (by decide) rfl (Nat.le_of_ble_eq_true rfl) rfl ?_
  intro p e s m args below meth c A ls R Q hRf hRl hQ hx hb hr hlk hml hown hts hA hS hK hP hD hl
  have inX7 : ∀ w ∈ wsX70, w ∈ wsX7_forget := fun w h => (List.mem_cons_of_mem _ (List.mem_append_right _ h))
  have hw1 := hts (Cond.fieldLink RX7 253 "MastPulpitsModel" "sights" "I") (List.mem_of_getElem? (i := 1) (by decide +kernel))
  have kc0 : (0 : Int32).toInt = 0 := by decide
  have hf : f_X7_forget st = f_X7_forget st := rfl
  refine lv_aload_n hx hb dX7_forget_0 rfl (lv_at hl 0 rfl) ?_
  refine va_get (D := D) (cl := vwCl) (ci := 6) (v := .int (st 0 11)) (C := RX7) (T := TX7) (N := 34) hx hb hts inX7 hown hK.1 hP 0 (mO h ad ct st) rfl 11 (by decide) hw1 (fun _ h => h) (mF_11 ad st) dX7_forget_1 ?_
  refine lv_topi (fun y4 ey4 => ?_)
  have hf := kLt hf ey4
  refine lv_istore_n (lv' := [(1, .int y4), (0, .ref h)]) hx hb dX7_forget_4 rfl hl (by decide) rfl (fun ls hl => ?_)
  refine lv_aload_n hx hb dX7_forget_5 rfl (lv_at hl 1 rfl) ?_
  refine lv_iconst (v := (0 : Int32)) hx hb dX7_forget_6 (by decide) ?_
  refine kPut (ci := 6) (C := RX7) (T := TX7) (N := 34) (ty := .int) (v := .int (0 : Int32)) (W1 := mW h ad ct (u2 st 0 11 (0 : Int32))) hx hb hts inX7 tyX7 tyX7_ok nmX7 hown hK hP hD hS 0 (mO h ad ct st) rfl 11 (by decide) hw1 (fun _ h => h) rfl (by decide +kernel) rfl rfl (mLn 11 ad st (by decide)) (mS_11 h ad ct st (0 : Int32)) dX7_forget_7 (fun H locs hP hD hS => ?_)
  refine lv_iload_n hx hb dX7_forget_10 rfl (lv_at hl 0 rfl) ?_
  exact kRetI hx hb hr hlk hP hD hS (kfst hf) ((congrArg (fun q => mW h ad ct q.2) hf).symm) hQ dX7_forget_11
