/-! contracts, laid by program (wip/whole/gen.py, ann.py) -/
theorem kyX7_isFit : kY yX7_isFit cX7_isFit 5 (some .boolean) wsX7_isFit wsX7_isFit.tail 1 := ⟨rfl, by decide, by decide, by decide +kernel⟩
set_option maxHeartbeats 4000000 in
set_option maxRecDepth 100000 in
theorem k_X7_isFit (l : Launch) (D : va_G) (ct : ClassId × ClassId × ClassId) (z : Nat × Nat) (h : Nat) (ad : Nat → Nat) (x1 : Int32) (st : Nat → Nat → Int32) (hs : 0 ≤ Int32.toInt (st 0 11) ∧ Int32.toInt (st 0 11) ≤ 8) : kC l D ct z yX7_isFit wsX7_isFit 2 44 [.ref h, .int x1] (mW h ad ct st) (some (.int (f_X7_isFit x1 st))) (mW h ad ct st) := by
  refine kHead (cc := cX7_isFit) (maxL := 5) (ret := (some .boolean)) [(0, .ref h), (1, .int x1)] (by decide) rfl (Nat.le_of_ble_eq_true rfl) rfl ?_
  intro p e s m args below meth c A ls R Q hRf hRl hQ hx hb hr hlk hml hown hts hA hS hK hP hD hl
  have inX7 : ∀ w ∈ wsX70, w ∈ wsX7_isFit := fun w h => (List.mem_cons_of_mem _ (List.mem_append_right _ h))
  have hw1 := hts (Cond.fieldLink RX7 253 "MastPulpitsModel" "sights" "I") (List.mem_of_getElem? (i := 1) (by decide +kernel))
  have hw2 := hts (Cond.fieldLink RX7 16 "MastPulpitsModel" "sightCell" "[I") (List.mem_of_getElem? (i := 2) (by decide +kernel))
  have hw3 := hts (Cond.fieldLink RX7 19 "MastPulpitsModel" "sightGlass" "[I") (List.mem_of_getElem? (i := 3) (by decide +kernel))
  have hw4 := hts (Cond.fieldLink RX7 22 "MastPulpitsModel" "sightSees" "[I") (List.mem_of_getElem? (i := 4) (by decide +kernel))
  have kc0 : (0 : Int32).toInt = 0 := by decide
  have kc1 : (1 : Int32).toInt = 1 := by decide
  have hf : f_X7_isFit x1 st = f_X7_isFit x1 st := rfl
  refine lv_iconst (v := (1 : Int32)) hx hb dX7_isFit_0 (by decide) ?_
  refine lv_istore_n (lv' := [(2, .int (1 : Int32)), (0, .ref h), (1, .int x1)]) hx hb dX7_isFit_1 rfl hl (by decide) rfl (fun ls hl => ?_)
  refine lv_iconst (v := (0 : Int32)) hx hb dX7_isFit_2 (by decide) ?_
  refine lv_istore_n (lv' := [(3, .int (0 : Int32)), (2, .int (1 : Int32)), (0, .ref h), (1, .int x1)]) hx hb dX7_isFit_3 rfl hl (by decide) rfl (fun ls hl => ?_)
  have lp4 : ∀ (K : Int32 → Int32), (∀ (z4_2 : Int32), (z4_2 = 0 ∨ z4_2 = 1) → ∀ (H : Heap) (locs : List Loc) (ls : Array Slot), va_P D vwCl (mW h ad ct st) H → va_D A (mW h ad ct st) → va_S A s.heap H locs → lv_has ls 5 [(2, .int z4_2)] → f_X7_isFit x1 st = K z4_2 → W p l e R s m args below meth c H locs 0 0 Q (F0 m 74 ls [])) → ∀ (n : Nat) (z4_3 : Int32) (z4_2 : Int32), (z4_2 = 0 ∨ z4_2 = 1) → ∀ (H : Heap) (locs : List Loc) (ls : Array Slot), (Int32.toInt (st 0 11) ≤ Int32.toInt z4_3 + (n : Int)) → (0 ≤ Int32.toInt z4_3) → va_P D vwCl (mW h ad ct st) H → va_D A (mW h ad ct st) → va_S A s.heap H locs → lv_has ls 5 [(3, .int z4_3), (2, .int z4_2), (0, .ref h), (1, .int x1)] → f_X7_isFit x1 st = f_X7_isFit_L4 x1 st K n z4_3 z4_2 → W p l e R s m args below meth c H locs 0 0 Q (F0 m 4 ls []) := by
    intro K hk n
    induction n with
    | zero =>
      intro z4_3 z4_2 b01_z4_2 H locs ls hn4 hz4 hP hD hS hl hf
      refine lv_iload_n hx hb dX7_isFit_4 rfl (lv_at hl 0 rfl) ?_
      refine lv_aload_n hx hb dX7_isFit_5 rfl (lv_at hl 2 rfl) ?_
      refine va_get (D := D) (cl := vwCl) (ci := 6) (v := .int (st 0 11)) (C := RX7) (T := TX7) (N := 34) hx hb hts inX7 hown hK.1 hP 0 (mO h ad ct st) rfl 11 (by decide) hw1 (fun _ h => h) (mF_11 ad st) dX7_isFit_6 ?_
      refine lv_icmp_ge (tgt := 74) hx hb dX7_isFit_9 (by decide) (fun c_6 => ?_) (fun c_6 => ?_)
      · have t_6 := ti_le c_6
        exact hk _ b01_z4_2 _ _ _  hP hD hS (lv_sub hl [1] rfl) hf
      · have t_6 := ti_nle c_6
        exfalso
        omega
    | succ n ih =>
      intro z4_3 z4_2 b01_z4_2 H locs ls hn4 hz4 hP hD hS hl hf
      refine lv_iload_n hx hb dX7_isFit_4 rfl (lv_at hl 0 rfl) ?_
      refine lv_aload_n hx hb dX7_isFit_5 rfl (lv_at hl 2 rfl) ?_
      refine va_get (D := D) (cl := vwCl) (ci := 6) (v := .int (st 0 11)) (C := RX7) (T := TX7) (N := 34) hx hb hts inX7 hown hK.1 hP 0 (mO h ad ct st) rfl 11 (by decide) hw1 (fun _ h => h) (mF_11 ad st) dX7_isFit_6 ?_
      refine lv_icmp_ge (tgt := 74) hx hb dX7_isFit_9 (by decide) (fun c_1 => ?_) (fun c_1 => ?_)
      · have hf := kIt hf c_1
        have t_1 := ti_le c_1
        exact hk _ b01_z4_2 _ _ _  hP hD hS (lv_sub hl [1] rfl) hf
      · have hf := kIf hf c_1
        have t_1 := ti_nle c_1
        refine lv_iload_n hx hb dX7_isFit_12 rfl (lv_at hl 3 rfl) ?_
        refine lv_aload_n hx hb dX7_isFit_13 rfl (lv_at hl 2 rfl) ?_
        refine va_get (D := D) (cl := vwCl) (ci := 6) (v := .ref (ad 8)) (C := RX7) (T := TX7) (N := 34) hx hb hts inX7 hown hK.1 hP 0 (mO h ad ct st) rfl 8 (by decide) hw2 (fun _ h => h) (mF_8 ad st) dX7_isFit_14 ?_
        refine lv_iload_n hx hb dX7_isFit_17 rfl (lv_at hl 0 rfl) ?_
        refine va_iald hx hb hK.1 hP 3 0 (mA_8 h ad ct st) rfl (by first | assumption | exact vin (by omega) (by omega) | omega) dX7_isFit_18 ?_
        have hM : kC l D ct z yX7_far wsX7_far 1 21 [.int x1, .int (st 9 (Int32.toNatClampNeg z4_3))] ([]) (some (.int (f_X7_far x1 (st 9 (Int32.toNatClampNeg z4_3))))) ([]) := k_X7_far l D ct z x1 (st 9 (Int32.toNatClampNeg z4_3))
        refine kS0 (As := [.int x1, .int (st 9 (Int32.toNatClampNeg z4_3))]) (rest := []) ⟨hx, hb, hml, hown, hts⟩ hM gX7_isFit_X7_far kyX7_far (by rw [hRf, hRl]; exact ⟨Nat.le_of_ble_eq_true rfl, Nat.le_of_ble_eq_true rfl⟩) hK hP hD hS hA rfl hl.1 rfl (st1 := [.int (f_X7_far x1 (st 9 (Int32.toNatClampNeg z4_3)))]) rfl rfl ⟨Nat.zero_le _, Nat.zero_le _⟩ dX7_isFit_19 (fun H locs hP hD hS => ?_)
        refine lv_aload_n hx hb dX7_isFit_22 rfl (lv_at hl 2 rfl) ?_
        refine va_get (D := D) (cl := vwCl) (ci := 6) (v := .ref (ad 9)) (C := RX7) (T := TX7) (N := 34) hx hb hts inX7 hown hK.1 hP 0 (mO h ad ct st) rfl 9 (by decide) hw3 (fun _ h => h) (mF_9 ad st) dX7_isFit_23 ?_
        refine lv_iload_n hx hb dX7_isFit_26 rfl (lv_at hl 0 rfl) ?_
        refine va_iald hx hb hK.1 hP 4 0 (mA_9 h ad ct st) rfl (by first | assumption | exact vin (by omega) (by omega) | omega) dX7_isFit_27 ?_
        refine kJn hf (fun j0 => ∀ (z36_s0 : Int32), (z36_s0 = 0 ∨ z36_s0 = 1) → f_X7_isFit x1 st = j0 z36_s0 → ∀ (H : Heap) (locs : List Loc) (ls : Array Slot), va_P D vwCl (mW h ad ct st) H → va_D A (mW h ad ct st) → va_S A s.heap H locs → lv_has ls 5 [(3, .int z4_3), (2, .int z4_2), (0, .ref h), (1, .int x1)] → W p l e R s m args below meth c H locs 0 0 Q (F0 m 36 ls [.int z36_s0])) ?_ ?_
        · intro j0 hj0 z36_s0 b01_z36_s0 hf H locs ls hP hD hS hl
          subst hj0
          refine lv_istore (lv' := [(4, .int z36_s0), (3, .int z4_3), (2, .int z4_2), (0, .ref h), (1, .int x1)]) hx hb dX7_isFit_36 hl (by decide) rfl (fun ls hl => ?_)
          refine lv_iload_n hx hb dX7_isFit_38 rfl (lv_at hl 2 rfl) ?_
          refine kJn hf (fun j0 => ∀ (z67_s0 : Int32), (z67_s0 = 0 ∨ z67_s0 = 1) → f_X7_isFit x1 st = j0 z67_s0 → ∀ (H : Heap) (locs : List Loc) (ls : Array Slot), va_P D vwCl (mW h ad ct st) H → va_D A (mW h ad ct st) → va_S A s.heap H locs → lv_has ls 5 [(3, .int z4_3), (0, .ref h), (1, .int x1)] → W p l e R s m args below meth c H locs 0 0 Q (F0 m 67 ls [.int z67_s0])) ?_ ?_
          · intro j0 hj0 z67_s0 b01_z67_s0 hf H locs ls hP hD hS hl
            subst hj0
            refine lv_istore_n (lv' := [(2, .int z67_s0), (3, .int z4_3), (0, .ref h), (1, .int x1)]) hx hb dX7_isFit_67 rfl hl (by decide) rfl (fun ls hl => ?_)
            obtain ⟨y68, ey68⟩ : ∃ y : Int32, y = z4_3 + (1 : Int32) := ⟨_, rfl⟩
            have hf := kLt hf ey68
            have a68 : Int32.toInt y68 = Int32.toInt z4_3 + 1 := by have := ti_rng z4_3; rw [ey68]; exact ti_add (by rw [kc1]) (by omega) (by omega)
            refine lv_iinc (v := y68) (lv' := [(3, .int y68), (2, .int z67_s0), (0, .ref h), (1, .int x1)]) hx hb dX7_isFit_68 hl (k := 1) rfl (by rw [ey68]; rfl) (by decide) rfl (fun ls hl => ?_)
            refine lv_goto (tgt := 4) hx hb dX7_isFit_71 (by decide) ?_
            exact ih y68 z67_s0 b01_z67_s0 _ _ _ (by first | assumption | exact vin (by omega) (by omega) | omega) (by first | assumption | exact vin (by omega) (by omega) | omega) hP hD hS (lv_sub hl [0, 1, 2, 3] rfl) hf
          · intro j67 hJ67 hf
            refine kJn hf (fun j0 => ∀ (u0 : Unit), f_X7_isFit x1 st = j0 () → ∀ (H : Heap) (locs : List Loc) (ls : Array Slot), va_P D vwCl (mW h ad ct st) H → va_D A (mW h ad ct st) → va_S A s.heap H locs → lv_has ls 5 [(3, .int z4_3), (0, .ref h), (1, .int x1)] → W p l e R s m args below meth c H locs 0 0 Q (F0 m 66 ls [])) ?_ ?_
            · intro j0 hj0 u0  hf H locs ls hP hD hS hl
              subst hj0
              refine lv_iconst (v := (0 : Int32)) hx hb dX7_isFit_66 (by decide) ?_
              exact hJ67 _ (Or.inl rfl)  hf _ _ _ hP hD hS (lv_sub hl [0, 1, 2] rfl)
            · intro j66 hJ66 hf
              refine lv_if_eq (tgt := 66) hx hb dX7_isFit_39 (by decide) (fun c_3 => ?_) (fun c_3 => ?_)
              · have hf := kIt hf c_3
                have t_3 := ti_eq c_3
                exact hJ66 ()  hf _ _ _ hP hD hS (lv_sub hl [1, 3, 4] rfl)
              · have hf := kIf hf c_3
                have t_3 := ti_ne c_3
                refine lv_iload hx hb dX7_isFit_42 (lv_at hl 0 rfl) ?_
                refine lv_aload_n hx hb dX7_isFit_44 rfl (lv_at hl 3 rfl) ?_
                refine va_get (D := D) (cl := vwCl) (ci := 6) (v := .ref (ad 10)) (C := RX7) (T := TX7) (N := 34) hx hb hts inX7 hown hK.1 hP 0 (mO h ad ct st) rfl 10 (by decide) hw4 (fun _ h => h) (mF_10 ad st) dX7_isFit_45 ?_
                refine lv_iload_n hx hb dX7_isFit_48 rfl (lv_at hl 1 rfl) ?_
                refine va_iald hx hb hK.1 hP 5 0 (mA_10 h ad ct st) rfl (by first | assumption | exact vin (by omega) (by omega) | omega) dX7_isFit_49 ?_
                refine lv_iconst (v := (1 : Int32)) hx hb dX7_isFit_50 (by decide) ?_
                refine kJn hf (fun j0 => ∀ (z59_s0 : Int32), (z59_s0 = 0 ∨ z59_s0 = 1) → f_X7_isFit x1 st = j0 z59_s0 → ∀ (H : Heap) (locs : List Loc) (ls : Array Slot), va_P D vwCl (mW h ad ct st) H → va_D A (mW h ad ct st) → va_S A s.heap H locs → lv_has ls 5 [(3, .int z4_3), (0, .ref h), (1, .int x1)] → W p l e R s m args below meth c H locs 0 0 Q (F0 m 59 ls [.int z59_s0, .int z36_s0])) ?_ ?_
                · intro j0 hj0 z59_s0 b01_z59_s0 hf H locs ls hP hD hS hl
                  subst hj0
                  refine lv_icmp_ne (tgt := 66) hx hb dX7_isFit_59 (by decide) (fun c_5 => ?_) (fun c_5 => ?_)
                  · have hf := kIf hf c_5
                    have t_5 := ti_ne c_5
                    exact hJ66 ()  hf _ _ _ hP hD hS (lv_sub hl [0, 1, 2] rfl)
                  · have hf := kIt hf c_5
                    have t_5 := ti_eq c_5
                    refine lv_iconst (v := (1 : Int32)) hx hb dX7_isFit_62 (by decide) ?_
                    refine lv_goto (tgt := 67) hx hb dX7_isFit_63 (by decide) ?_
                    exact hJ67 _ (Or.inr rfl)  hf _ _ _ hP hD hS (lv_sub hl [0, 1, 2] rfl)
                · intro j59 hJ59 hf
                  refine lv_icmp_ne (tgt := 58) hx hb dX7_isFit_51 (by decide) (fun c_4 => ?_) (fun c_4 => ?_)
                  · have hf := kIf hf c_4
                    have t_4 := ti_ne c_4
                    refine lv_iconst (v := (0 : Int32)) hx hb dX7_isFit_58 (by decide) ?_
                    exact hJ59 _ (Or.inl rfl)  hf _ _ _ hP hD hS (lv_sub hl [1, 3, 4] rfl)
                  · have hf := kIt hf c_4
                    have t_4 := ti_eq c_4
                    refine lv_iconst (v := (1 : Int32)) hx hb dX7_isFit_54 (by decide) ?_
                    refine lv_goto (tgt := 59) hx hb dX7_isFit_55 (by decide) ?_
                    exact hJ59 _ (Or.inr rfl)  hf _ _ _ hP hD hS (lv_sub hl [1, 3, 4] rfl)
        · intro j36 hJ36 hf
          refine lv_icmp_gt (tgt := 35) hx hb dX7_isFit_28 (by decide) (fun c_2 => ?_) (fun c_2 => ?_)
          · have hf := kIt hf c_2
            have t_2 := ti_lt c_2
            refine lv_iconst (v := (0 : Int32)) hx hb dX7_isFit_35 (by decide) ?_
            exact hJ36 _ (Or.inl rfl)  hf _ _ _ hP hD hS (lv_sub hl [0, 1, 2, 3] rfl)
          · have hf := kIf hf c_2
            have t_2 := ti_nlt c_2
            refine lv_iconst (v := (1 : Int32)) hx hb dX7_isFit_31 (by decide) ?_
            refine lv_goto (tgt := 36) hx hb dX7_isFit_32 (by decide) ?_
            exact hJ36 _ (Or.inr rfl)  hf _ _ _ hP hD hS (lv_sub hl [0, 1, 2, 3] rfl)
  refine lp4 _ (fun w4_2 b01_w4_2 H locs ls  hP hD hS hl hf => ?_) (8) (0 : Int32) (1 : Int32) (Or.inr rfl) _ _ _ (by first | assumption | exact vin (by omega) (by omega) | omega) (by first | assumption | exact vin (by omega) (by omega) | omega) hP hD hS (lv_sub hl [0, 1, 2, 3] rfl) hf
  refine lv_iload_n hx hb dX7_isFit_74 rfl (lv_at hl 0 rfl) ?_
  exact kRetZ hx hb hr hlk hP hD hS b01_w4_2 hf.symm rfl hQ dX7_isFit_75
theorem kyX7_findFits : kY yX7_findFits cX7_findFits 2 none wsX7_findFits wsX7_findFits.tail 0 := ⟨rfl, by decide, by decide, by decide +kernel⟩
set_option maxHeartbeats 4000000 in
set_option maxRecDepth 100000 in
theorem k_X7_findFits (l : Launch) (D : va_G) (ct : ClassId × ClassId × ClassId) (z : Nat × Nat) (h : Nat) (ad : Nat → Nat) (st : Nat → Nat → Int32) (hs : 0 ≤ Int32.toInt (st 0 11) ∧ Int32.toInt (st 0 11) ≤ 8) : kC l D ct z yX7_findFits wsX7_findFits 3 68 [.ref h] (mW h ad ct st) (none) (mW h ad ct (f_X7_findFits st)) := by
  refine kHead (cc := cX7_findFits) (maxL := 2) (ret := none) [(0, .ref h)] (by decide) rfl (Nat.le_of_ble_eq_true rfl) rfl ?_
  intro p e s m args below meth c A ls R Q hRf hRl hQ hx hb hr hlk hml hown hts hA hS hK hP hD hl
  have inX7 : ∀ w ∈ wsX70, w ∈ wsX7_findFits := fun w h => (List.mem_cons_of_mem _ (List.mem_append_right _ h))
  have hw1 := hts (Cond.fieldLink RX7 256 "MastPulpitsModel" "fitMany" "I") (List.mem_of_getElem? (i := 1) (by decide +kernel))
  have hw2 := hts (Cond.fieldLink RX7 46 "MastPulpitsModel" "fit" "[I") (List.mem_of_getElem? (i := 2) (by decide +kernel))
  have kc0 : (0 : Int32).toInt = 0 := by decide
  have kc1 : (1 : Int32).toInt = 1 := by decide
  have kc64 : (64 : Int32).toInt = 64 := by decide
  have hf : f_X7_findFits st = f_X7_findFits st := rfl
  refine lv_aload_n hx hb dX7_findFits_0 rfl (lv_at hl 0 rfl) ?_
  refine lv_iconst (v := (0 : Int32)) hx hb dX7_findFits_1 (by decide) ?_
  refine kPut (ci := 6) (C := RX7) (T := TX7) (N := 34) (ty := .int) (v := .int (0 : Int32)) (W1 := mW h ad ct (u2 st 0 28 (0 : Int32))) hx hb hts inX7 tyX7 tyX7_ok nmX7 hown hK hP hD hS 0 (mO h ad ct st) rfl 28 (by decide) hw1 (fun _ h => h) rfl (by decide +kernel) rfl rfl (mLn 28 ad st (by decide)) (mS_28 h ad ct st (0 : Int32)) dX7_findFits_2 (fun H locs hP hD hS => ?_)
  refine lv_iconst (v := (0 : Int32)) hx hb dX7_findFits_5 (by decide) ?_
  refine lv_istore_n (lv' := [(1, .int (0 : Int32)), (0, .ref h)]) hx hb dX7_findFits_6 rfl hl (by decide) rfl (fun ls hl => ?_)
  have lp7 : ∀ (K : (Nat → Nat → Int32) → (Nat → Nat → Int32)), (∀ (z7_st : Nat → Nat → Int32), ∀ (H : Heap) (locs : List Loc) (ls : Array Slot), (0 ≤ Int32.toInt (z7_st 0 11) ∧ Int32.toInt (z7_st 0 11) ≤ 8) → va_P D vwCl (mW h ad ct z7_st) H → va_D A (mW h ad ct z7_st) → va_S A s.heap H locs → lv_has ls 2 [] → f_X7_findFits st = K z7_st → W p l e R s m args below meth c H locs 0 0 Q (F0 m 47 ls [])) → ∀ (n : Nat) (z7_1 : Int32) (z7_st : Nat → Nat → Int32), ∀ (H : Heap) (locs : List Loc) (ls : Array Slot), (64 ≤ Int32.toInt z7_1 + (n : Int)) → (0 ≤ Int32.toInt z7_1) → (0 ≤ Int32.toInt (z7_st 0 28) ∧ Int32.toInt (z7_st 0 28) ≤ Int32.toInt z7_1) → (0 ≤ Int32.toInt (z7_st 0 11) ∧ Int32.toInt (z7_st 0 11) ≤ 8) → va_P D vwCl (mW h ad ct z7_st) H → va_D A (mW h ad ct z7_st) → va_S A s.heap H locs → lv_has ls 2 [(1, .int z7_1), (0, .ref h)] → f_X7_findFits st = f_X7_findFits_L7  K n z7_1 z7_st → W p l e R s m args below meth c H locs 0 0 Q (F0 m 7 ls []) := by
    intro K hk n
    induction n with
    | zero =>
      intro z7_1 z7_st  H locs ls hn7 hz7 hf7 hs7 hP hD hS hl hf
      refine lv_iload_n hx hb dX7_findFits_7 rfl (lv_at hl 0 rfl) ?_
      refine lv_bipush (v := (64 : Int32)) hx hb dX7_findFits_8 (by decide) ?_
      refine lv_icmp_ge (tgt := 47) hx hb dX7_findFits_10 (by decide) (fun c_3 => ?_) (fun c_3 => ?_)
      · have t_3 := ti_le c_3
        exact hk _ _ _ _ (by first | assumption | exact vin (by omega) (by omega) | omega) hP hD hS (lv_sub hl [] rfl) hf
      · have t_3 := ti_nle c_3
        exfalso
        omega
    | succ n ih =>
      intro z7_1 z7_st  H locs ls hn7 hz7 hf7 hs7 hP hD hS hl hf
      refine lv_iload_n hx hb dX7_findFits_7 rfl (lv_at hl 0 rfl) ?_
      refine lv_bipush (v := (64 : Int32)) hx hb dX7_findFits_8 (by decide) ?_
      refine lv_icmp_ge (tgt := 47) hx hb dX7_findFits_10 (by decide) (fun c_1 => ?_) (fun c_1 => ?_)
      · have hf := kIt hf c_1
        have t_1 := ti_le c_1
        exact hk _ _ _ _ (by first | assumption | exact vin (by omega) (by omega) | omega) hP hD hS (lv_sub hl [] rfl) hf
      · have hf := kIf hf c_1
        have t_1 := ti_nle c_1
        refine lv_aload_n hx hb dX7_findFits_13 rfl (lv_at hl 1 rfl) ?_
        refine lv_iload_n hx hb dX7_findFits_14 rfl (lv_at hl 0 rfl) ?_
        have hM : kC l D ct z yX7_isFit wsX7_isFit 2 44 [.ref h, .int z7_1] (mW h ad ct z7_st) (some (.int (f_X7_isFit z7_1 z7_st))) (mW h ad ct z7_st) := k_X7_isFit l D ct z h ad z7_1 z7_st (by first | assumption | exact vin (by omega) (by omega) | omega)
        refine kV1 (As := [.int z7_1]) (rest := []) ⟨hx, hb, hml, hown, hts⟩ hM gX7_findFits_X7_isFit kyX7_isFit (by rw [hRf, hRl]; exact ⟨Nat.le_of_ble_eq_true rfl, Nat.le_of_ble_eq_true rfl⟩) hK hP hD hS hA 0 (mO h ad ct z7_st) rfl rfl rfl hl.1 rfl (st1 := [.int (f_X7_isFit z7_1 z7_st)]) rfl rfl ⟨Nat.zero_le _, Nat.zero_le _⟩ dX7_findFits_15 (fun H locs hP hD hS => ?_)
        refine kJn hf (fun j0 => ∀ (z41_st : Nat → Nat → Int32), (0 ≤ Int32.toInt (z41_st 0 28) ∧ Int32.toInt (z41_st 0 28) ≤ Int32.toInt z7_1 + 1) → (0 ≤ Int32.toInt (z41_st 0 11) ∧ Int32.toInt (z41_st 0 11) ≤ 8) → f_X7_findFits st = j0 z41_st → ∀ (H : Heap) (locs : List Loc) (ls : Array Slot), va_P D vwCl (mW h ad ct z41_st) H → va_D A (mW h ad ct z41_st) → va_S A s.heap H locs → lv_has ls 2 [(1, .int z7_1), (0, .ref h)] → W p l e R s m args below meth c H locs 0 0 Q (F0 m 41 ls [])) ?_ ?_
        · intro j0 hj0 z41_st hf41 hs41 hf H locs ls hP hD hS hl
          subst hj0
          obtain ⟨y41, ey41⟩ : ∃ y : Int32, y = z7_1 + (1 : Int32) := ⟨_, rfl⟩
          have hf := kLt hf ey41
          have a41 : Int32.toInt y41 = Int32.toInt z7_1 + 1 := by have := ti_rng z7_1; rw [ey41]; exact ti_add (by rw [kc1]) (by omega) (by omega)
          refine lv_iinc (v := y41) (lv' := [(1, .int y41), (0, .ref h)]) hx hb dX7_findFits_41 hl (k := 0) rfl (by rw [ey41]; rfl) (by decide) rfl (fun ls hl => ?_)
          refine lv_goto (tgt := 7) hx hb dX7_findFits_44 (by decide) ?_
          exact ih y41 z41_st _ _ _ (by first | assumption | exact vin (by omega) (by omega) | omega) (by first | assumption | exact vin (by omega) (by omega) | omega) (by omega) hs41 hP hD hS (lv_sub hl [0, 1] rfl) hf
        · intro j41 hJ41 hf
          refine lv_if_eq (tgt := 41) hx hb dX7_findFits_18 (by decide) (fun c_2 => ?_) (fun c_2 => ?_)
          · have hf := kIt hf c_2
            have t_2 := ti_eq c_2
            exact hJ41 _ (by first | (show 0 ≤ Int32.toInt y38 ∧ Int32.toInt y38 ≤ Int32.toInt z7_1 + 1; omega) | omega) (by exact hs7) hf _ _ _ hP hD hS (lv_sub hl [0, 1] rfl)
          · have hf := kIf hf c_2
            have t_2 := ti_ne c_2
            refine lv_aload_n hx hb dX7_findFits_21 rfl (lv_at hl 1 rfl) ?_
            refine va_get (D := D) (cl := vwCl) (ci := 6) (v := .ref (ad 27)) (C := RX7) (T := TX7) (N := 34) hx hb hts inX7 hown hK.1 hP 0 (mO h ad ct z7_st) rfl 27 (by decide) hw2 (fun _ h => h) (mF_27 ad z7_st) dX7_findFits_22 ?_
            refine lv_aload_n hx hb dX7_findFits_25 rfl (lv_at hl 1 rfl) ?_
            refine va_get (D := D) (cl := vwCl) (ci := 6) (v := .int (z7_st 0 28)) (C := RX7) (T := TX7) (N := 34) hx hb hts inX7 hown hK.1 hP 0 (mO h ad ct z7_st) rfl 28 (by decide) hw1 (fun _ h => h) (mF_28 ad z7_st) dX7_findFits_26 ?_
            refine lv_iload_n hx hb dX7_findFits_29 rfl (lv_at hl 0 rfl) ?_
            refine kIast (W1 := mW h ad ct (u2 z7_st 28 ((Int32.toNatClampNeg (z7_st 0 28))) z7_1)) hx hb hK hP hD hS 13 (mA_27 h ad ct z7_st) (by first | assumption | exact vin (by omega) (by omega) | omega) (mB_27 h ad ct z7_st _ _) dX7_findFits_30 (fun H locs hP hD hS => ?_)
            refine lv_aload_n hx hb dX7_findFits_31 rfl (lv_at hl 1 rfl) ?_
            refine lv_dup hx hb dX7_findFits_32 rfl ?_
            refine va_get (D := D) (cl := vwCl) (ci := 6) (v := .int (z7_st 0 28)) (C := RX7) (T := TX7) (N := 34) hx hb hts inX7 hown hK.1 hP 0 (mO h ad ct (u2 z7_st 28 ((Int32.toNatClampNeg (z7_st 0 28))) z7_1)) rfl 28 (by decide) hw1 (fun _ h => h) (mF_28 ad (u2 z7_st 28 ((Int32.toNatClampNeg (z7_st 0 28))) z7_1)) dX7_findFits_33 ?_
            refine lv_iconst (v := (1 : Int32)) hx hb dX7_findFits_36 (by decide) ?_
            refine lv_iadd hx hb dX7_findFits_37 ?_
            refine lv_topi (fun y38 ey38 => ?_)
            have hf := kLt hf ey38
            have a38 : Int32.toInt y38 = Int32.toInt (z7_st 0 28) + 1 := by rw [ey38]; exact ti_add (by rw [kc1]) (by omega) (by omega)
            refine kPut (ci := 6) (C := RX7) (T := TX7) (N := 34) (ty := .int) (v := .int y38) (W1 := mW h ad ct (u2 (u2 z7_st 28 ((Int32.toNatClampNeg (z7_st 0 28))) z7_1) 0 28 y38)) hx hb hts inX7 tyX7 tyX7_ok nmX7 hown hK hP hD hS 0 (mO h ad ct (u2 z7_st 28 ((Int32.toNatClampNeg (z7_st 0 28))) z7_1)) rfl 28 (by decide) hw1 (fun _ h => h) rfl (by decide +kernel) rfl rfl (mLn 28 ad (u2 z7_st 28 ((Int32.toNatClampNeg (z7_st 0 28))) z7_1) (by decide)) (mS_28 h ad ct (u2 z7_st 28 ((Int32.toNatClampNeg (z7_st 0 28))) z7_1) y38) dX7_findFits_38 (fun H locs hP hD hS => ?_)
            exact hJ41 _ (by first | (show 0 ≤ Int32.toInt y38 ∧ Int32.toInt y38 ≤ Int32.toInt z7_1 + 1; omega) | omega) (by exact hs7) hf _ _ _ hP hD hS (lv_sub hl [0, 1] rfl)
  refine lp7 _ (fun w7_st  H locs ls hs7 hP hD hS hl hf => ?_) (64) (0 : Int32) (u2 st 0 28 (0 : Int32))  _ _ _ (by first | assumption | exact vin (by omega) (by omega) | omega) (by first | assumption | exact vin (by omega) (by omega) | omega) (show 0 ≤ Int32.toInt (0 : Int32) ∧ Int32.toInt (0 : Int32) ≤ Int32.toInt (0 : Int32) by decide) hs hP hD hS (lv_sub hl [0, 1] rfl) hf
  exact kRetV hx hb hr hlk hP hD hS ((congrArg (fun q => mW h ad ct q) hf).symm) hQ dX7_findFits_47
theorem kyX7_light : kY yX7_light cX7_light 2 (some .int) wsX7_light wsX7_light.tail 1 := ⟨rfl, by decide, by decide, by decide +kernel⟩
set_option maxHeartbeats 4000000 in
set_option maxRecDepth 100000 in
theorem k_X7_light (l : Launch) (D : va_G) (ct : ClassId × ClassId × ClassId) (z : Nat × Nat) (h : Nat) (ad : Nat → Nat) (x1 : Int32) (st : Nat → Nat → Int32) (hs : 0 ≤ Int32.toInt (st 0 11) ∧ Int32.toInt (st 0 11) ≤ 8) : kC l D ct z yX7_light wsX7_light 4 89 [.ref h, .int x1] (mW h ad ct st) (some (.int ((f_X7_light x1 st).1))) (mW h ad ct ((f_X7_light x1 st).2)) := by
  refine kHead (cc := cX7_light) (maxL := 2) (ret := (some .int)) [(0, .ref h), (1, .int x1)] (by decide) rfl (Nat.le_of_ble_eq_true rfl) rfl ?_
  intro p e s m args below meth c A ls R Q hRf hRl hQ hx hb hr hlk hml hown hts hA hS hK hP hD hl
  have inX7 : ∀ w ∈ wsX70, w ∈ wsX7_light := fun w h => (List.mem_cons_of_mem _ (List.mem_append_right _ h))
  have hw1 := hts (Cond.fieldLink RX7 256 "MastPulpitsModel" "fitMany" "I") (List.mem_of_getElem? (i := 1) (by decide +kernel))
  have hw2 := hts (Cond.fieldLink RX7 46 "MastPulpitsModel" "fit" "[I") (List.mem_of_getElem? (i := 2) (by decide +kernel))
  have kcm6 : (-6 : Int32).toInt = -6 := by decide
  have kcm1 : (-1 : Int32).toInt = -1 := by decide
  have kc0 : (0 : Int32).toInt = 0 := by decide
  have kc1 : (1 : Int32).toInt = 1 := by decide
  have kl0 : (0 : Int64).toInt = 0 := by decide
  have hf : f_X7_light x1 st = f_X7_light x1 st := rfl
  refine lv_aload_n hx hb dX7_light_0 rfl (lv_at hl 0 rfl) ?_
  obtain ⟨q1, eq1⟩ : ∃ y, y = f_X7_findFits st := ⟨_, rfl⟩
  have hf := kLt hf eq1
  have g1 := fits_post st hs
  rw [← eq1] at g1
  have hM : kC l D ct z yX7_findFits wsX7_findFits 3 68 [.ref h] (mW h ad ct st) (none) (mW h ad ct q1) := by rw [eq1]; exact k_X7_findFits l D ct z h ad st (by first | assumption | exact vin (by omega) (by omega) | omega)
  refine kV1 (As := []) (rest := []) ⟨hx, hb, hml, hown, hts⟩ hM gX7_light_X7_findFits kyX7_findFits (by rw [hRf, hRl]; exact ⟨Nat.le_of_ble_eq_true rfl, Nat.le_of_ble_eq_true rfl⟩) hK hP hD hS hA 0 (mO h ad ct st) rfl rfl rfl hl.1 rfl (st1 := []) rfl rfl ⟨Nat.zero_le _, Nat.zero_le _⟩ dX7_light_1 (fun H locs hP hD hS => ?_)
  refine lv_iload_n hx hb dX7_light_4 rfl (lv_at hl 1 rfl) ?_
  refine lv_iconst (v := (-1 : Int32)) hx hb dX7_light_5 (by decide) ?_
  refine lv_icmp_ne (tgt := 16) hx hb dX7_light_6 (by decide) (fun c_1 => ?_) (fun c_1 => ?_)
  · have hf := kIf hf c_1
    have t_1 := ti_ne c_1
    refine lv_iload_n hx hb dX7_light_16 rfl (lv_at hl 1 rfl) ?_
    refine lv_i2l (v := (Int32.toInt64 x1)) hx hb dX7_light_17 rfl ?_
    refine lv_lconst (v := (0 : Int64)) hx hb dX7_light_18 (by decide) ?_
    refine lv_aload_n hx hb dX7_light_19 rfl (lv_at hl 0 rfl) ?_
    refine va_get (D := D) (cl := vwCl) (ci := 6) (v := .int (q1 0 28)) (C := RX7) (T := TX7) (N := 34) hx hb hts inX7 hown hK.1 hP 0 (mO h ad ct q1) rfl 28 (by decide) hw1 (fun _ h => h) (mF_28 ad q1) dX7_light_20 ?_
    refine lv_iconst (v := (1 : Int32)) hx hb dX7_light_23 (by decide) ?_
    refine lv_isub hx hb dX7_light_24 ?_
    refine lv_i2l (v := (Int32.toInt64 ((q1 0 28) - (1 : Int32)))) hx hb dX7_light_25 rfl ?_
    have hM : kC l D ct z yX7_in wsX7_in 0 0 [.long (Int32.toInt64 x1), .long (0 : Int64), .long (Int32.toInt64 ((q1 0 28) - (1 : Int32)))] ([]) (some (.int (f_X7_in (Int32.toInt64 x1) (0 : Int64) (Int32.toInt64 ((q1 0 28) - (1 : Int32)))))) ([]) := k_X7_in l D ct z (Int32.toInt64 x1) (0 : Int64) (Int32.toInt64 ((q1 0 28) - (1 : Int32)))
    refine kS0 (As := [.long (Int32.toInt64 x1), .long (0 : Int64), .long (Int32.toInt64 ((q1 0 28) - (1 : Int32)))]) (rest := []) ⟨hx, hb, hml, hown, hts⟩ hM gX7_light_X7_in kyX7_in (by rw [hRf, hRl]; exact ⟨Nat.le_of_ble_eq_true rfl, Nat.le_of_ble_eq_true rfl⟩) hK hP hD hS hA rfl hl.1 rfl (st1 := [.int (f_X7_in (Int32.toInt64 x1) (0 : Int64) (Int32.toInt64 ((q1 0 28) - (1 : Int32))))]) rfl rfl ⟨Nat.zero_le _, Nat.zero_le _⟩ dX7_light_26 (fun H locs hP hD hS => ?_)
    refine lv_if_eq (tgt := 41) hx hb dX7_light_29 (by decide) (fun c_2 => ?_) (fun c_2 => ?_)
    · have hf := kIt hf c_2
      have t_2 := ti_eq c_2
      refine lv_bipush (v := (-6 : Int32)) hx hb dX7_light_41 (by decide) ?_
      exact kRetI hx hb hr hlk hP hD hS (kfst hf) ((congrArg (fun q => mW h ad ct q.2) hf).symm) hQ dX7_light_43
    · have hf := kIf hf c_2
      have t_2 := ti_ne c_2; have w_2 := in_nz2 c_2
      refine lv_aload_n hx hb dX7_light_32 rfl (lv_at hl 0 rfl) ?_
      refine va_get (D := D) (cl := vwCl) (ci := 6) (v := .ref (ad 27)) (C := RX7) (T := TX7) (N := 34) hx hb hts inX7 hown hK.1 hP 0 (mO h ad ct q1) rfl 27 (by decide) hw2 (fun _ h => h) (mF_27 ad q1) dX7_light_33 ?_
      refine lv_iload_n hx hb dX7_light_36 rfl (lv_at hl 1 rfl) ?_
      refine va_iald hx hb hK.1 hP 13 0 (mA_27 h ad ct q1) rfl (by have e : Int32.toInt (q1 0 28 - (1 : Int32)) = Int32.toInt (q1 0 28) - 1 := ti_sub (by rw [kc1]) (by omega) (by omega); exact vin (by omega) (by omega)) dX7_light_37 ?_
      refine lv_goto (tgt := 43) hx hb dX7_light_38 (by decide) ?_
      exact kRetI hx hb hr hlk hP hD hS (kfst hf) ((congrArg (fun q => mW h ad ct q.2) hf).symm) hQ dX7_light_43
  · have hf := kIt hf c_1
    have t_1 := ti_eq c_1
    refine lv_aload_n hx hb dX7_light_9 rfl (lv_at hl 0 rfl) ?_
    refine va_get (D := D) (cl := vwCl) (ci := 6) (v := .int (q1 0 28)) (C := RX7) (T := TX7) (N := 34) hx hb hts inX7 hown hK.1 hP 0 (mO h ad ct q1) rfl 28 (by decide) hw1 (fun _ h => h) (mF_28 ad q1) dX7_light_10 ?_
    refine lv_goto (tgt := 43) hx hb dX7_light_13 (by decide) ?_
    exact kRetI hx hb hr hlk hP hD hS (kfst hf) ((congrArg (fun q => mW h ad ct q.2) hf).symm) hQ dX7_light_43
theorem kyX7_mostLeft : kY yX7_mostLeft cX7_mostLeft 5 (some .int) wsX7_mostLeft wsX7_mostLeft.tail 2 := ⟨rfl, by decide, by decide, by decide +kernel⟩
set_option maxHeartbeats 4000000 in
set_option maxRecDepth 100000 in
theorem k_X7_mostLeft (l : Launch) (D : va_G) (ct : ClassId × ClassId × ClassId) (z : Nat × Nat) (h : Nat) (ad : Nat → Nat) (x1 : Int32) (x2 : Int32) (st : Nat → Nat → Int32) (hf28 : 0 ≤ Int32.toInt (st 0 28) ∧ Int32.toInt (st 0 28) ≤ 64) : kC l D ct z yX7_mostLeft wsX7_mostLeft 2 44 [.ref h, .int x1, .int x2] (mW h ad ct st) (some (.int (f_X7_mostLeft x1 x2 st))) (mW h ad ct st) := by
  refine kHead (cc := cX7_mostLeft) (maxL := 5) (ret := (some .int)) [(0, .ref h), (1, .int x1), (2, .int x2)] (by decide) rfl (Nat.le_of_ble_eq_true rfl) rfl ?_
  intro p e s m args below meth c A ls R Q hRf hRl hQ hx hb hr hlk hml hown hts hA hS hK hP hD hl
  have inX7 : ∀ w ∈ wsX70, w ∈ wsX7_mostLeft := fun w h => (List.mem_cons_of_mem _ (List.mem_append_right _ h))
  have hw1 := hts (Cond.fieldLink RX7 256 "MastPulpitsModel" "fitMany" "I") (List.mem_of_getElem? (i := 1) (by decide +kernel))
  have hw2 := hts (Cond.fieldLink RX7 46 "MastPulpitsModel" "fit" "[I") (List.mem_of_getElem? (i := 2) (by decide +kernel))
  have kc0 : (0 : Int32).toInt = 0 := by decide
  have kc1 : (1 : Int32).toInt = 1 := by decide
  have hf : f_X7_mostLeft x1 x2 st = f_X7_mostLeft x1 x2 st := rfl
  refine lv_iconst (v := (0 : Int32)) hx hb dX7_mostLeft_0 (by decide) ?_
  refine lv_istore_n (lv' := [(3, .int (0 : Int32)), (0, .ref h), (1, .int x1), (2, .int x2)]) hx hb dX7_mostLeft_1 rfl hl (by decide) rfl (fun ls hl => ?_)
  refine lv_iconst (v := (0 : Int32)) hx hb dX7_mostLeft_2 (by decide) ?_
  refine lv_istore (lv' := [(4, .int (0 : Int32)), (3, .int (0 : Int32)), (0, .ref h), (1, .int x1), (2, .int x2)]) hx hb dX7_mostLeft_3 hl (by decide) rfl (fun ls hl => ?_)
  have lp5 : ∀ (K : Int32 → Int32), (∀ (z5_3 : Int32), ∀ (H : Heap) (locs : List Loc) (ls : Array Slot), va_P D vwCl (mW h ad ct st) H → va_D A (mW h ad ct st) → va_S A s.heap H locs → lv_has ls 5 [(3, .int z5_3), (0, .ref h)] → f_X7_mostLeft x1 x2 st = K z5_3 → W p l e R s m args below meth c H locs 0 0 Q (F0 m 43 ls [])) → ∀ (n : Nat) (z5_4 : Int32) (z5_3 : Int32), ∀ (H : Heap) (locs : List Loc) (ls : Array Slot), (Int32.toInt (st 0 28) ≤ Int32.toInt z5_4 + (n : Int)) → (0 ≤ Int32.toInt z5_4) → va_P D vwCl (mW h ad ct st) H → va_D A (mW h ad ct st) → va_S A s.heap H locs → lv_has ls 5 [(4, .int z5_4), (3, .int z5_3), (0, .ref h), (1, .int x1), (2, .int x2)] → f_X7_mostLeft x1 x2 st = f_X7_mostLeft_L5 x1 x2 st K n z5_4 z5_3 → W p l e R s m args below meth c H locs 0 0 Q (F0 m 5 ls []) := by
    intro K hk n
    induction n with
    | zero =>
      intro z5_4 z5_3  H locs ls hn5 hz5 hP hD hS hl hf
      refine lv_iload hx hb dX7_mostLeft_5 (lv_at hl 0 rfl) ?_
      refine lv_aload_n hx hb dX7_mostLeft_7 rfl (lv_at hl 2 rfl) ?_
      refine va_get (D := D) (cl := vwCl) (ci := 6) (v := .int (st 0 28)) (C := RX7) (T := TX7) (N := 34) hx hb hts inX7 hown hK.1 hP 0 (mO h ad ct st) rfl 28 (by decide) hw1 (fun _ h => h) (mF_28 ad st) dX7_mostLeft_8 ?_
      refine lv_icmp_ge (tgt := 43) hx hb dX7_mostLeft_11 (by decide) (fun c_3 => ?_) (fun c_3 => ?_)
      · have t_3 := ti_le c_3
        exact hk _ _ _ _  hP hD hS (lv_sub hl [1, 2] rfl) hf
      · have t_3 := ti_nle c_3
        exfalso
        omega
    | succ n ih =>
      intro z5_4 z5_3  H locs ls hn5 hz5 hP hD hS hl hf
      refine lv_iload hx hb dX7_mostLeft_5 (lv_at hl 0 rfl) ?_
      refine lv_aload_n hx hb dX7_mostLeft_7 rfl (lv_at hl 2 rfl) ?_
      refine va_get (D := D) (cl := vwCl) (ci := 6) (v := .int (st 0 28)) (C := RX7) (T := TX7) (N := 34) hx hb hts inX7 hown hK.1 hP 0 (mO h ad ct st) rfl 28 (by decide) hw1 (fun _ h => h) (mF_28 ad st) dX7_mostLeft_8 ?_
      refine lv_icmp_ge (tgt := 43) hx hb dX7_mostLeft_11 (by decide) (fun c_1 => ?_) (fun c_1 => ?_)
      · have hf := kIt hf c_1
        have t_1 := ti_le c_1
        exact hk _ _ _ _  hP hD hS (lv_sub hl [1, 2] rfl) hf
      · have hf := kIf hf c_1
        have t_1 := ti_nle c_1
        refine lv_iload_n hx hb dX7_mostLeft_14 rfl (lv_at hl 1 rfl) ?_
        refine lv_aload_n hx hb dX7_mostLeft_15 rfl (lv_at hl 2 rfl) ?_
        refine va_get (D := D) (cl := vwCl) (ci := 6) (v := .ref (ad 27)) (C := RX7) (T := TX7) (N := 34) hx hb hts inX7 hown hK.1 hP 0 (mO h ad ct st) rfl 27 (by decide) hw2 (fun _ h => h) (mF_27 ad st) dX7_mostLeft_16 ?_
        refine lv_iload hx hb dX7_mostLeft_19 (lv_at hl 0 rfl) ?_
        refine va_iald hx hb hK.1 hP 13 0 (mA_27 h ad ct st) rfl (by first | assumption | exact vin (by omega) (by omega) | omega) dX7_mostLeft_21 ?_
        refine lv_iload_n hx hb dX7_mostLeft_22 rfl (lv_at hl 3 rfl) ?_
        have hM : kC l D ct z yX7_far wsX7_far 1 21 [.int (st 28 (Int32.toNatClampNeg z5_4)), .int x1] ([]) (some (.int (f_X7_far (st 28 (Int32.toNatClampNeg z5_4)) x1))) ([]) := k_X7_far l D ct z (st 28 (Int32.toNatClampNeg z5_4)) x1
        refine kS0 (As := [.int (st 28 (Int32.toNatClampNeg z5_4)), .int x1]) (rest := [.int z5_3]) ⟨hx, hb, hml, hown, hts⟩ hM gX7_mostLeft_X7_far kyX7_far (by rw [hRf, hRl]; exact ⟨Nat.le_of_ble_eq_true rfl, Nat.le_of_ble_eq_true rfl⟩) hK hP hD hS hA rfl hl.1 rfl (st1 := [.int (f_X7_far (st 28 (Int32.toNatClampNeg z5_4)) x1), .int z5_3]) rfl rfl ⟨Nat.zero_le _, Nat.zero_le _⟩ dX7_mostLeft_23 (fun H locs hP hD hS => ?_)
        refine lv_iload_n hx hb dX7_mostLeft_26 rfl (lv_at hl 4 rfl) ?_
        refine kJn hf (fun j0 => ∀ (z35_s0 : Int32), (z35_s0 = 0 ∨ z35_s0 = 1) → f_X7_mostLeft x1 x2 st = j0 z35_s0 → ∀ (H : Heap) (locs : List Loc) (ls : Array Slot), va_P D vwCl (mW h ad ct st) H → va_D A (mW h ad ct st) → va_S A s.heap H locs → lv_has ls 5 [(4, .int z5_4), (0, .ref h), (1, .int x1), (2, .int x2)] → W p l e R s m args below meth c H locs 0 0 Q (F0 m 35 ls [.int z35_s0, .int z5_3])) ?_ ?_
        · intro j0 hj0 z35_s0 b01_z35_s0 hf H locs ls hP hD hS hl
          subst hj0
          refine lv_iadd hx hb dX7_mostLeft_35 ?_
          refine lv_topi (fun y36 ey36 => ?_)
          have hf := kLt hf ey36
          refine lv_istore_n (lv' := [(3, .int y36), (4, .int z5_4), (0, .ref h), (1, .int x1), (2, .int x2)]) hx hb dX7_mostLeft_36 rfl hl (by decide) rfl (fun ls hl => ?_)
          obtain ⟨y37, ey37⟩ : ∃ y : Int32, y = z5_4 + (1 : Int32) := ⟨_, rfl⟩
          have hf := kLt hf ey37
          have a37 : Int32.toInt y37 = Int32.toInt z5_4 + 1 := by have := ti_rng z5_4; rw [ey37]; exact ti_add (by rw [kc1]) (by omega) (by omega)
          refine lv_iinc (v := y37) (lv' := [(4, .int y37), (3, .int y36), (0, .ref h), (1, .int x1), (2, .int x2)]) hx hb dX7_mostLeft_37 hl (k := 1) rfl (by rw [ey37]; rfl) (by decide) rfl (fun ls hl => ?_)
          refine lv_goto (tgt := 5) hx hb dX7_mostLeft_40 (by decide) ?_
          exact ih y37 y36 _ _ _ (by first | assumption | exact vin (by omega) (by omega) | omega) (by first | assumption | exact vin (by omega) (by omega) | omega) hP hD hS (lv_sub hl [0, 1, 2, 3, 4] rfl) hf
        · intro j35 hJ35 hf
          refine lv_icmp_gt (tgt := 34) hx hb dX7_mostLeft_27 (by decide) (fun c_2 => ?_) (fun c_2 => ?_)
          · have hf := kIt hf c_2
            have t_2 := ti_lt c_2
            refine lv_iconst (v := (0 : Int32)) hx hb dX7_mostLeft_34 (by decide) ?_
            exact hJ35 _ (Or.inl rfl)  hf _ _ _ hP hD hS (lv_sub hl [0, 2, 3, 4] rfl)
          · have hf := kIf hf c_2
            have t_2 := ti_nlt c_2
            refine lv_iconst (v := (1 : Int32)) hx hb dX7_mostLeft_30 (by decide) ?_
            refine lv_goto (tgt := 35) hx hb dX7_mostLeft_31 (by decide) ?_
            exact hJ35 _ (Or.inr rfl)  hf _ _ _ hP hD hS (lv_sub hl [0, 2, 3, 4] rfl)
  refine lp5 _ (fun w5_3  H locs ls  hP hD hS hl hf => ?_) (64) (0 : Int32) (0 : Int32)  _ _ _ (by first | assumption | exact vin (by omega) (by omega) | omega) (by first | assumption | exact vin (by omega) (by omega) | omega) hP hD hS (lv_sub hl [0, 1, 2, 3, 4] rfl) hf
  refine lv_iload_n hx hb dX7_mostLeft_43 rfl (lv_at hl 0 rfl) ?_
  refine lv_aload_n hx hb dX7_mostLeft_44 rfl (lv_at hl 1 rfl) ?_
  refine va_get (D := D) (cl := vwCl) (ci := 6) (v := .int (st 0 28)) (C := RX7) (T := TX7) (N := 34) hx hb hts inX7 hown hK.1 hP 0 (mO h ad ct st) rfl 28 (by decide) hw1 (fun _ h => h) (mF_28 ad st) dX7_mostLeft_45 ?_
  refine lv_iload_n hx hb dX7_mostLeft_48 rfl (lv_at hl 0 rfl) ?_
  refine lv_isub hx hb dX7_mostLeft_49 ?_
  refine lv_icmp_le (tgt := 57) hx hb dX7_mostLeft_50 (by decide) (fun c_4 => ?_) (fun c_4 => ?_)
  · have hf := kIt hf c_4
    have t_4 := ti_le c_4
    refine lv_aload_n hx hb dX7_mostLeft_57 rfl (lv_at hl 1 rfl) ?_
    refine va_get (D := D) (cl := vwCl) (ci := 6) (v := .int (st 0 28)) (C := RX7) (T := TX7) (N := 34) hx hb hts inX7 hown hK.1 hP 0 (mO h ad ct st) rfl 28 (by decide) hw1 (fun _ h => h) (mF_28 ad st) dX7_mostLeft_58 ?_
    refine lv_iload_n hx hb dX7_mostLeft_61 rfl (lv_at hl 0 rfl) ?_
    refine lv_isub hx hb dX7_mostLeft_62 ?_
    exact kRetI hx hb hr hlk hP hD hS hf.symm rfl hQ dX7_mostLeft_63
  · have hf := kIf hf c_4
    have t_4 := ti_nle c_4
    refine lv_iload_n hx hb dX7_mostLeft_53 rfl (lv_at hl 0 rfl) ?_
    refine lv_goto (tgt := 63) hx hb dX7_mostLeft_54 (by decide) ?_
    exact kRetI hx hb hr hlk hP hD hS hf.symm rfl hQ dX7_mostLeft_63
theorem kyX7_ask : kY yX7_ask cX7_ask 6 (some .int) wsX7_ask wsX7_ask.tail 1 := ⟨rfl, by decide, by decide, by decide +kernel⟩
set_option maxHeartbeats 4000000 in
set_option maxRecDepth 100000 in
theorem k_X7_ask (l : Launch) (D : va_G) (ct : ClassId × ClassId × ClassId) (z : Nat × Nat) (h : Nat) (ad : Nat → Nat) (x1 : Int32) (st : Nat → Nat → Int32) (hs : 0 ≤ Int32.toInt (st 0 11) ∧ Int32.toInt (st 0 11) ≤ 8) : kC l D ct z yX7_ask wsX7_ask 4 89 [.ref h, .int x1] (mW h ad ct st) (some (.int ((f_X7_ask x1 st).1))) (mW h ad ct ((f_X7_ask x1 st).2)) := by
  refine kHead (cc := cX7_ask) (maxL := 6) (ret := (some .int)) [(0, .ref h), (1, .int x1)] (by decide) rfl (Nat.le_of_ble_eq_true rfl) rfl ?_
  intro p e s m args below meth c A ls R Q hRf hRl hQ hx hb hr hlk hml hown hts hA hS hK hP hD hl
  have inX7 : ∀ w ∈ wsX70, w ∈ wsX7_ask := fun w h => (List.mem_cons_of_mem _ (List.mem_append_right _ h))
  have hw1 := hts (Cond.fieldLink RX7 256 "MastPulpitsModel" "fitMany" "I") (List.mem_of_getElem? (i := 1) (by decide +kernel))
  have kcm6 : (-6 : Int32).toInt = -6 := by decide
  have kcm2 : (-2 : Int32).toInt = -2 := by decide
  have kc0 : (0 : Int32).toInt = 0 := by decide
  have kc1 : (1 : Int32).toInt = 1 := by decide
  have kc8 : (8 : Int32).toInt = 8 := by decide
  have kc10 : (10 : Int32).toInt = 10 := by decide
  have kc640 : (640 : Int32).toInt = 640 := by decide
  have kl0 : (0 : Int64).toInt = 0 := by decide
  have kl1 : (1 : Int64).toInt = 1 := by decide
  have hf : f_X7_ask x1 st = f_X7_ask x1 st := rfl
  refine lv_iload_n hx hb dX7_ask_0 rfl (lv_at hl 1 rfl) ?_
  refine lv_i2l (v := (Int32.toInt64 x1)) hx hb dX7_ask_1 rfl ?_
  refine lv_lconst (v := (0 : Int64)) hx hb dX7_ask_2 (by decide) ?_
  refine lv_lconst (v := (1 : Int64)) hx hb dX7_ask_3 (by decide) ?_
  have hM : kC l D ct z yX7_in wsX7_in 0 0 [.long (Int32.toInt64 x1), .long (0 : Int64), .long (1 : Int64)] ([]) (some (.int (f_X7_in (Int32.toInt64 x1) (0 : Int64) (1 : Int64)))) ([]) := k_X7_in l D ct z (Int32.toInt64 x1) (0 : Int64) (1 : Int64)
  refine kS0 (As := [.long (Int32.toInt64 x1), .long (0 : Int64), .long (1 : Int64)]) (rest := []) ⟨hx, hb, hml, hown, hts⟩ hM gX7_ask_X7_in kyX7_in (by rw [hRf, hRl]; exact ⟨Nat.le_of_ble_eq_true rfl, Nat.le_of_ble_eq_true rfl⟩) hK hP hD hS hA rfl hl.1 rfl (st1 := [.int (f_X7_in (Int32.toInt64 x1) (0 : Int64) (1 : Int64))]) rfl rfl ⟨Nat.zero_le _, Nat.zero_le _⟩ dX7_ask_4 (fun H locs hP hD hS => ?_)
  refine lv_if_ne (tgt := 13) hx hb dX7_ask_7 (by decide) (fun c_1 => ?_) (fun c_1 => ?_)
  · have hf := kIf hf c_1
    have t_1 := ti_ne c_1; have w_1 := in_nz c_1
    refine lv_aload_n hx hb dX7_ask_13 rfl (lv_at hl 0 rfl) ?_
    obtain ⟨q14, eq14⟩ : ∃ y, y = f_X7_findFits st := ⟨_, rfl⟩
    have hf := kLt hf eq14
    have g14 := fits_post st hs
    rw [← eq14] at g14
    have hM : kC l D ct z yX7_findFits wsX7_findFits 3 68 [.ref h] (mW h ad ct st) (none) (mW h ad ct q14) := by rw [eq14]; exact k_X7_findFits l D ct z h ad st hs
    refine kV1 (As := []) (rest := []) ⟨hx, hb, hml, hown, hts⟩ hM gX7_ask_X7_findFits kyX7_findFits (by rw [hRf, hRl]; exact ⟨Nat.le_of_ble_eq_true rfl, Nat.le_of_ble_eq_true rfl⟩) hK hP hD hS hA 0 (mO h ad ct st) rfl rfl rfl hl.1 rfl (st1 := []) rfl rfl ⟨Nat.zero_le _, Nat.zero_le _⟩ dX7_ask_14 (fun H locs hP hD hS => ?_)
    refine lv_bipush (v := (-6 : Int32)) hx hb dX7_ask_17 (by decide) ?_
    refine lv_istore_n (lv' := [(2, .int (-6 : Int32)), (0, .ref h), (1, .int x1)]) hx hb dX7_ask_19 rfl hl (by decide) rfl (fun ls hl => ?_)
    refine lv_aload_n hx hb dX7_ask_20 rfl (lv_at hl 1 rfl) ?_
    refine va_get (D := D) (cl := vwCl) (ci := 6) (v := .int (q14 0 28)) (C := RX7) (T := TX7) (N := 34) hx hb hts inX7 hown hK.1 hP 0 (mO h ad ct q14) rfl 28 (by decide) hw1 (fun _ h => h) (mF_28 ad q14) dX7_ask_21 ?_
    refine lv_iconst (v := (1 : Int32)) hx hb dX7_ask_24 (by decide) ?_
    refine lv_iadd hx hb dX7_ask_25 ?_
    refine lv_topi (fun y26 ey26 => ?_)
    have hf := kLt hf ey26
    refine lv_istore_n (lv' := [(3, .int y26), (2, .int (-6 : Int32)), (0, .ref h), (1, .int x1)]) hx hb dX7_ask_26 rfl hl (by decide) rfl (fun ls hl => ?_)
    refine lv_iconst (v := (0 : Int32)) hx hb dX7_ask_27 (by decide) ?_
    refine lv_istore (lv' := [(4, .int (0 : Int32)), (3, .int y26), (2, .int (-6 : Int32)), (0, .ref h), (1, .int x1)]) hx hb dX7_ask_28 hl (by decide) rfl (fun ls hl => ?_)
    have lp30 : ∀ (K : Int32 → Int32 → (Int32 × (Nat → Nat → Int32))), (∀ (z30_3 : Int32) (z30_2 : Int32), ∀ (H : Heap) (locs : List Loc) (ls : Array Slot), va_P D vwCl (mW h ad ct q14) H → va_D A (mW h ad ct q14) → va_S A s.heap H locs → lv_has ls 6 [(3, .int z30_3), (2, .int z30_2), (1, .int x1)] → f_X7_ask x1 st = K z30_3 z30_2 → W p l e R s m args below meth c H locs 0 0 Q (F0 m 101 ls [])) → ∀ (n : Nat) (z30_4 : Int32) (z30_3 : Int32) (z30_2 : Int32), ∀ (H : Heap) (locs : List Loc) (ls : Array Slot), (640 ≤ Int32.toInt z30_4 + (n : Int)) → va_P D vwCl (mW h ad ct q14) H → va_D A (mW h ad ct q14) → va_S A s.heap H locs → lv_has ls 6 [(4, .int z30_4), (3, .int z30_3), (2, .int z30_2), (0, .ref h), (1, .int x1)] → f_X7_ask x1 st = f_X7_ask_L30 q14 K n z30_4 z30_3 z30_2 → W p l e R s m args below meth c H locs 0 0 Q (F0 m 30 ls []) := by
      intro K hk n
      induction n with
      | zero =>
        intro z30_4 z30_3 z30_2  H locs ls hn30 hP hD hS hl hf
        refine lv_iload hx hb dX7_ask_30 (lv_at hl 0 rfl) ?_
        refine lv_sipush (v := (640 : Int32)) hx hb dX7_ask_32 (by decide) ?_
        refine lv_icmp_ge (tgt := 101) hx hb dX7_ask_35 (by decide) (fun c_6 => ?_) (fun c_6 => ?_)
        · have t_6 := ti_le c_6
          exact hk _ _ _ _ _  hP hD hS (lv_sub hl [1, 2, 4] rfl) hf
        · have t_6 := ti_nle c_6
          exfalso
          omega
      | succ n ih =>
        intro z30_4 z30_3 z30_2  H locs ls hn30 hP hD hS hl hf
        refine lv_iload hx hb dX7_ask_30 (lv_at hl 0 rfl) ?_
        refine lv_sipush (v := (640 : Int32)) hx hb dX7_ask_32 (by decide) ?_
        refine lv_icmp_ge (tgt := 101) hx hb dX7_ask_35 (by decide) (fun c_2 => ?_) (fun c_2 => ?_)
        · have hf := kIt hf c_2
          have t_2 := ti_le c_2
          exact hk _ _ _ _ _  hP hD hS (lv_sub hl [1, 2, 4] rfl) hf
        · have hf := kIf hf c_2
          have t_2 := ti_nle c_2
          refine lv_aload_n hx hb dX7_ask_38 rfl (lv_at hl 3 rfl) ?_
          refine va_get (D := D) (cl := vwCl) (ci := 6) (v := .int (q14 0 28)) (C := RX7) (T := TX7) (N := 34) hx hb hts inX7 hown hK.1 hP 0 (mO h ad ct q14) rfl 28 (by decide) hw1 (fun _ h => h) (mF_28 ad q14) dX7_ask_39 ?_
          refine lv_if_le (tgt := 101) hx hb dX7_ask_42 (by decide) (fun c_3 => ?_) (fun c_3 => ?_)
          · have hf := kIt hf c_3
            have t_3 := ti_le c_3
            exact hk _ _ _ _ _  hP hD hS (lv_sub hl [1, 2, 4] rfl) hf
          · have hf := kIf hf c_3
            have t_3 := ti_nle c_3
            refine lv_iload hx hb dX7_ask_45 (lv_at hl 0 rfl) ?_
            refine lv_bipush (v := (10 : Int32)) hx hb dX7_ask_47 (by decide) ?_
            refine lv_irem hx hb dX7_ask_49 (by decide) ?_
            refine lv_bipush (v := (8 : Int32)) hx hb dX7_ask_50 (by decide) ?_
            refine kJn hf (fun j0 => ∀ (z73_s0 : Int32), f_X7_ask x1 st = j0 z73_s0 → ∀ (H : Heap) (locs : List Loc) (ls : Array Slot), va_P D vwCl (mW h ad ct q14) H → va_D A (mW h ad ct q14) → va_S A s.heap H locs → lv_has ls 6 [(4, .int z30_4), (3, .int z30_3), (2, .int z30_2), (0, .ref h), (1, .int x1)] → W p l e R s m args below meth c H locs 0 0 Q (F0 m 73 ls [.int z73_s0])) ?_ ?_
            · intro j0 hj0 z73_s0  hf H locs ls hP hD hS hl
              subst hj0
              refine lv_istore (lv' := [(5, .int z73_s0), (4, .int z30_4), (3, .int z30_3), (2, .int z30_2), (0, .ref h), (1, .int x1)]) hx hb dX7_ask_73 hl (by decide) rfl (fun ls hl => ?_)
              refine lv_iload hx hb dX7_ask_75 (lv_at hl 0 rfl) ?_
              refine lv_iload_n hx hb dX7_ask_77 rfl (lv_at hl 2 rfl) ?_
              refine kJn hf (fun j0 => ∀ (z87_s0 : Int32), f_X7_ask x1 st = j0 z87_s0 → ∀ (H : Heap) (locs : List Loc) (ls : Array Slot), va_P D vwCl (mW h ad ct q14) H → va_D A (mW h ad ct q14) → va_S A s.heap H locs → lv_has ls 6 [(5, .int z73_s0), (4, .int z30_4), (3, .int z30_3), (0, .ref h), (1, .int x1)] → W p l e R s m args below meth c H locs 0 0 Q (F0 m 87 ls [.int z87_s0])) ?_ ?_
              · intro j0 hj0 z87_s0  hf H locs ls hP hD hS hl
                subst hj0
                refine lv_istore_n (lv' := [(2, .int z87_s0), (5, .int z73_s0), (4, .int z30_4), (3, .int z30_3), (0, .ref h), (1, .int x1)]) hx hb dX7_ask_87 rfl hl (by decide) rfl (fun ls hl => ?_)
                refine lv_iload_n hx hb dX7_ask_88 rfl (lv_at hl 3 rfl) ?_
                refine lv_iload hx hb dX7_ask_89 (lv_at hl 1 rfl) ?_
                have hM : kC l D ct z yX7_less wsX7_less 0 0 [.int z30_3, .int z73_s0] ([]) (some (.int (f_X7_less z30_3 z73_s0))) ([]) := k_X7_less l D ct z z30_3 z73_s0
                refine kS0 (As := [.int z30_3, .int z73_s0]) (rest := []) ⟨hx, hb, hml, hown, hts⟩ hM gX7_ask_X7_less kyX7_less (by rw [hRf, hRl]; exact ⟨Nat.le_of_ble_eq_true rfl, Nat.le_of_ble_eq_true rfl⟩) hK hP hD hS hA rfl hl.1 rfl (st1 := [.int (f_X7_less z30_3 z73_s0)]) rfl rfl ⟨Nat.zero_le _, Nat.zero_le _⟩ dX7_ask_91 (fun H locs hP hD hS => ?_)
                refine lv_topi (fun y94 ey94 => ?_)
                have hf := kLt hf ey94
                refine lv_istore_n (lv' := [(3, .int y94), (2, .int z87_s0), (5, .int z73_s0), (4, .int z30_4), (0, .ref h), (1, .int x1)]) hx hb dX7_ask_94 rfl hl (by decide) rfl (fun ls hl => ?_)
                obtain ⟨y95, ey95⟩ : ∃ y : Int32, y = z30_4 + (1 : Int32) := ⟨_, rfl⟩
                have hf := kLt hf ey95
                have a95 : Int32.toInt y95 = Int32.toInt z30_4 + 1 := by have := ti_rng z30_4; rw [ey95]; exact ti_add (by rw [kc1]) (by omega) (by omega)
                refine lv_iinc (v := y95) (lv' := [(4, .int y95), (3, .int y94), (2, .int z87_s0), (5, .int z73_s0), (0, .ref h), (1, .int x1)]) hx hb dX7_ask_95 hl (k := 3) rfl (by rw [ey95]; rfl) (by decide) rfl (fun ls hl => ?_)
                refine lv_goto (tgt := 30) hx hb dX7_ask_98 (by decide) ?_
                exact ih y95 y94 z87_s0 _ _ _ (by first | assumption | exact vin (by omega) (by omega) | omega) hP hD hS (lv_sub hl [0, 1, 2, 4, 5] rfl) hf
              · intro j87 hJ87 hf
                refine lv_icmp_ge (tgt := 86) hx hb dX7_ask_78 (by decide) (fun c_5 => ?_) (fun c_5 => ?_)
                · have hf := kIt hf c_5
                  have t_5 := ti_le c_5
                  refine lv_iload_n hx hb dX7_ask_86 rfl (lv_at hl 3 rfl) ?_
                  exact hJ87 _  hf _ _ _ hP hD hS (lv_sub hl [0, 1, 2, 4, 5] rfl)
                · have hf := kIf hf c_5
                  have t_5 := ti_nle c_5
                  refine lv_iload hx hb dX7_ask_81 (lv_at hl 1 rfl) ?_
                  refine lv_goto (tgt := 87) hx hb dX7_ask_83 (by decide) ?_
                  exact hJ87 _  hf _ _ _ hP hD hS (lv_sub hl [0, 1, 2, 4, 5] rfl)
            · intro j73 hJ73 hf
              refine lv_icmp_ge (tgt := 72) hx hb dX7_ask_52 (by decide) (fun c_4 => ?_) (fun c_4 => ?_)
              · have hf := kIt hf c_4
                have t_4 := ti_le c_4
                refine lv_iload_n hx hb dX7_ask_72 rfl (lv_at hl 1 rfl) ?_
                exact hJ73 _  hf _ _ _ hP hD hS (lv_sub hl [0, 1, 2, 3, 4] rfl)
              · have hf := kIf hf c_4
                have t_4 := ti_nle c_4
                refine lv_aload_n hx hb dX7_ask_55 rfl (lv_at hl 3 rfl) ?_
                refine lv_iload hx hb dX7_ask_56 (lv_at hl 0 rfl) ?_
                refine lv_bipush (v := (10 : Int32)) hx hb dX7_ask_58 (by decide) ?_
                refine lv_idiv hx hb dX7_ask_60 (by decide) ?_
                refine lv_iload hx hb dX7_ask_61 (lv_at hl 0 rfl) ?_
                refine lv_bipush (v := (10 : Int32)) hx hb dX7_ask_63 (by decide) ?_
                refine lv_irem hx hb dX7_ask_65 (by decide) ?_
                have hM : kC l D ct z yX7_mostLeft wsX7_mostLeft 2 44 [.ref h, .int (z30_4 / (10 : Int32)), .int (jr z30_4 (10 : Int32))] (mW h ad ct q14) (some (.int (f_X7_mostLeft (z30_4 / (10 : Int32)) (jr z30_4 (10 : Int32)) q14))) (mW h ad ct q14) := k_X7_mostLeft l D ct z h ad (z30_4 / (10 : Int32)) (jr z30_4 (10 : Int32)) q14 (by omega)
                refine kV1 (As := [.int (z30_4 / (10 : Int32)), .int (jr z30_4 (10 : Int32))]) (rest := []) ⟨hx, hb, hml, hown, hts⟩ hM gX7_ask_X7_mostLeft kyX7_mostLeft (by rw [hRf, hRl]; exact ⟨Nat.le_of_ble_eq_true rfl, Nat.le_of_ble_eq_true rfl⟩) hK hP hD hS hA 0 (mO h ad ct q14) rfl rfl rfl hl.1 rfl (st1 := [.int (f_X7_mostLeft (z30_4 / (10 : Int32)) (jr z30_4 (10 : Int32)) q14)]) rfl rfl ⟨Nat.zero_le _, Nat.zero_le _⟩ dX7_ask_66 (fun H locs hP hD hS => ?_)
                refine lv_goto (tgt := 73) hx hb dX7_ask_69 (by decide) ?_
                exact hJ73 _  hf _ _ _ hP hD hS (lv_sub hl [0, 1, 2, 3, 4] rfl)
    refine lp30 _ (fun w30_3 w30_2  H locs ls  hP hD hS hl hf => ?_) (640) (0 : Int32) y26 (-6 : Int32)  _ _ _ (by first | assumption | exact vin (by omega) (by omega) | omega) hP hD hS (lv_sub hl [0, 1, 2, 3, 4] rfl) hf
    refine lv_iload_n hx hb dX7_ask_101 rfl (lv_at hl 1 rfl) ?_
    refine kJn hf (fun j0 => ∀ (u0 : Unit), f_X7_ask x1 st = j0 () → ∀ (H : Heap) (locs : List Loc) (ls : Array Slot), va_P D vwCl (mW h ad ct q14) H → va_D A (mW h ad ct q14) → va_S A s.heap H locs → lv_has ls 6 [(2, .int w30_2)] → W p l e R s m args below meth c H locs 0 0 Q (F0 m 109 ls [])) ?_ ?_
    · intro j0 hj0 u0  hf H locs ls hP hD hS hl
      subst hj0
      refine lv_iload_n hx hb dX7_ask_109 rfl (lv_at hl 0 rfl) ?_
      refine lv_goto (tgt := 114) hx hb dX7_ask_110 (by decide) ?_
      exact kRetI hx hb hr hlk hP hD hS (kfst hf) ((congrArg (fun q => mW h ad ct q.2) hf).symm) hQ dX7_ask_114
    · intro j109 hJ109 hf
      refine lv_if_lt (tgt := 109) hx hb dX7_ask_102 (by decide) (fun c_7 => ?_) (fun c_7 => ?_)
      · have hf := kIt hf c_7
        have t_7 := ti_lt c_7
        exact hJ109 ()  hf _ _ _ hP hD hS (lv_sub hl [1] rfl)
      · have hf := kIf hf c_7
        have t_7 := ti_nlt c_7
        refine lv_iload_n hx hb dX7_ask_105 rfl (lv_at hl 2 rfl) ?_
        refine lv_if_ne (tgt := 113) hx hb dX7_ask_106 (by decide) (fun c_8 => ?_) (fun c_8 => ?_)
        · have hf := kIf hf c_8
          have t_8 := ti_ne c_8
          refine lv_iload_n hx hb dX7_ask_113 rfl (lv_at hl 0 rfl) ?_
          exact kRetI hx hb hr hlk hP hD hS (kfst hf) ((congrArg (fun q => mW h ad ct q.2) hf).symm) hQ dX7_ask_114
        · have hf := kIt hf c_8
          have t_8 := ti_eq c_8
          exact hJ109 ()  hf _ _ _ hP hD hS (lv_sub hl [1] rfl)
  · have hf := kIt hf c_1
    have t_1 := ti_eq c_1
    refine lv_bipush (v := (-2 : Int32)) hx hb dX7_ask_10 (by decide) ?_
    exact kRetI hx hb hr hlk hP hD hS (kfst hf) ((congrArg (fun q => mW h ad ct q.2) hf).symm) hQ dX7_ask_12
theorem kyX7_tackTo : kY yX7_tackTo cX7_tackTo 2 (some .int) wsX7_tackTo wsX7_tackTo.tail 2 := ⟨rfl, by decide, by decide, by decide +kernel⟩
set_option maxHeartbeats 4000000 in
set_option maxRecDepth 100000 in
theorem k_X7_tackTo (l : Launch) (D : va_G) (ct : ClassId × ClassId × ClassId) (z : Nat × Nat)  (x0 : Int32) (x1 : Int32)  : kC l D ct z yX7_tackTo wsX7_tackTo 2 49 [.int x0, .int x1] ([]) (some (.int (f_X7_tackTo x0 x1))) ([]) := by
  refine kHead (cc := cX7_tackTo) (maxL := 2) (ret := (some .int)) [(0, .int x0), (1, .int x1)] (by decide) rfl (Nat.le_of_ble_eq_true rfl) rfl ?_
  intro p e s m args below meth c A ls R Q hRf hRl hQ hx hb hr hlk hml hown hts hA hS hK hP hD hl
  have kcm2 : (-2 : Int32).toInt = -2 := by decide
  have kcm1 : (-1 : Int32).toInt = -1 := by decide
  have kc0 : (0 : Int32).toInt = 0 := by decide
  have kc1 : (1 : Int32).toInt = 1 := by decide
  have hf : f_X7_tackTo x0 x1 = f_X7_tackTo x0 x1 := rfl
  refine lv_iload_n hx hb dX7_tackTo_0 rfl (lv_at hl 1 rfl) ?_
  have kv_1 : (0 : Int32).toInt = 0 := by decide
  refine (Classical.em (x1 = (0 : Int32))).elim (fun c_1 => ?_) (fun c_1 => ?_)
  · have hf := kIt hf c_1
    have t_1 := ti_eq c_1
    refine lv_tableIn (off := 27) (tgt := 28) hx hb dX7_tackTo_1 (by omega) (by omega) (by rw [c_1]; decide) (by decide) ?_
    refine lv_iload_n hx hb dX7_tackTo_28 rfl (lv_at hl 0 rfl) ?_
    refine lv_bipush (v := (-2 : Int32)) hx hb dX7_tackTo_29 (by decide) ?_
    refine lv_iconst (v := (1 : Int32)) hx hb dX7_tackTo_31 (by decide) ?_
    have hM : kC l D ct z yX7_beside wsX7_beside 1 25 [.int x0, .int (-2 : Int32), .int (1 : Int32)] ([]) (some (.int (f_X7_beside x0 (-2 : Int32) (1 : Int32)))) ([]) := k_X7_beside l D ct z x0 (-2 : Int32) (1 : Int32)
    refine kS0 (As := [.int x0, .int (-2 : Int32), .int (1 : Int32)]) (rest := []) ⟨hx, hb, hml, hown, hts⟩ hM gX7_tackTo_X7_beside kyX7_beside (by rw [hRf, hRl]; exact ⟨Nat.le_of_ble_eq_true rfl, Nat.le_of_ble_eq_true rfl⟩) hK hP hD hS hA rfl hl.1 rfl (st1 := [.int (f_X7_beside x0 (-2 : Int32) (1 : Int32))]) rfl rfl ⟨Nat.zero_le _, Nat.zero_le _⟩ dX7_tackTo_32 (fun H locs hP hD hS => ?_)
    exact kRetI hx hb hr hlk hP hD hS hf.symm rfl hQ dX7_tackTo_35
  · have hf := kIf hf c_1
    have t_1 := ti_ne c_1
    have kv_2 : (1 : Int32).toInt = 1 := by decide
    refine (Classical.em (x1 = (1 : Int32))).elim (fun c_2 => ?_) (fun c_2 => ?_)
    · have hf := kIt hf c_2
      have t_2 := ti_eq c_2
      refine lv_tableIn (off := 35) (tgt := 36) hx hb dX7_tackTo_1 (by omega) (by omega) (by rw [c_2]; decide) (by decide) ?_
      refine lv_iload_n hx hb dX7_tackTo_36 rfl (lv_at hl 0 rfl) ?_
      refine lv_bipush (v := (-2 : Int32)) hx hb dX7_tackTo_37 (by decide) ?_
      refine lv_iconst (v := (-1 : Int32)) hx hb dX7_tackTo_39 (by decide) ?_
      have hM : kC l D ct z yX7_beside wsX7_beside 1 25 [.int x0, .int (-2 : Int32), .int (-1 : Int32)] ([]) (some (.int (f_X7_beside x0 (-2 : Int32) (-1 : Int32)))) ([]) := k_X7_beside l D ct z x0 (-2 : Int32) (-1 : Int32)
      refine kS0 (As := [.int x0, .int (-2 : Int32), .int (-1 : Int32)]) (rest := []) ⟨hx, hb, hml, hown, hts⟩ hM gX7_tackTo_X7_beside kyX7_beside (by rw [hRf, hRl]; exact ⟨Nat.le_of_ble_eq_true rfl, Nat.le_of_ble_eq_true rfl⟩) hK hP hD hS hA rfl hl.1 rfl (st1 := [.int (f_X7_beside x0 (-2 : Int32) (-1 : Int32))]) rfl rfl ⟨Nat.zero_le _, Nat.zero_le _⟩ dX7_tackTo_40 (fun H locs hP hD hS => ?_)
      exact kRetI hx hb hr hlk hP hD hS hf.symm rfl hQ dX7_tackTo_43
    · have hf := kIf hf c_2
      have t_2 := ti_ne c_2
      have kv_3 : (2 : Int32).toInt = 2 := by decide
      refine (Classical.em (x1 = (2 : Int32))).elim (fun c_3 => ?_) (fun c_3 => ?_)
      · have hf := kIt hf c_3
        have t_3 := ti_eq c_3
        refine lv_tableIn (off := 43) (tgt := 44) hx hb dX7_tackTo_1 (by omega) (by omega) (by rw [c_3]; decide) (by decide) ?_
        refine lv_iload_n hx hb dX7_tackTo_44 rfl (lv_at hl 0 rfl) ?_
        refine lv_iconst (v := (1 : Int32)) hx hb dX7_tackTo_45 (by decide) ?_
        refine lv_bipush (v := (-2 : Int32)) hx hb dX7_tackTo_46 (by decide) ?_
        have hM : kC l D ct z yX7_beside wsX7_beside 1 25 [.int x0, .int (1 : Int32), .int (-2 : Int32)] ([]) (some (.int (f_X7_beside x0 (1 : Int32) (-2 : Int32)))) ([]) := k_X7_beside l D ct z x0 (1 : Int32) (-2 : Int32)
        refine kS0 (As := [.int x0, .int (1 : Int32), .int (-2 : Int32)]) (rest := []) ⟨hx, hb, hml, hown, hts⟩ hM gX7_tackTo_X7_beside kyX7_beside (by rw [hRf, hRl]; exact ⟨Nat.le_of_ble_eq_true rfl, Nat.le_of_ble_eq_true rfl⟩) hK hP hD hS hA rfl hl.1 rfl (st1 := [.int (f_X7_beside x0 (1 : Int32) (-2 : Int32))]) rfl rfl ⟨Nat.zero_le _, Nat.zero_le _⟩ dX7_tackTo_48 (fun H locs hP hD hS => ?_)
        exact kRetI hx hb hr hlk hP hD hS hf.symm rfl hQ dX7_tackTo_51
      · have hf := kIf hf c_3
        have t_3 := ti_ne c_3
        refine lv_tableOut (tgt := 52) hx hb dX7_tackTo_1 (by omega) (by decide) ?_
        refine lv_iload_n hx hb dX7_tackTo_52 rfl (lv_at hl 0 rfl) ?_
        refine lv_iconst (v := (-1 : Int32)) hx hb dX7_tackTo_53 (by decide) ?_
        refine lv_bipush (v := (-2 : Int32)) hx hb dX7_tackTo_54 (by decide) ?_
        have hM : kC l D ct z yX7_beside wsX7_beside 1 25 [.int x0, .int (-1 : Int32), .int (-2 : Int32)] ([]) (some (.int (f_X7_beside x0 (-1 : Int32) (-2 : Int32)))) ([]) := k_X7_beside l D ct z x0 (-1 : Int32) (-2 : Int32)
        refine kS0 (As := [.int x0, .int (-1 : Int32), .int (-2 : Int32)]) (rest := []) ⟨hx, hb, hml, hown, hts⟩ hM gX7_tackTo_X7_beside kyX7_beside (by rw [hRf, hRl]; exact ⟨Nat.le_of_ble_eq_true rfl, Nat.le_of_ble_eq_true rfl⟩) hK hP hD hS hA rfl hl.1 rfl (st1 := [.int (f_X7_beside x0 (-1 : Int32) (-2 : Int32))]) rfl rfl ⟨Nat.zero_le _, Nat.zero_le _⟩ dX7_tackTo_56 (fun H locs hP hD hS => ?_)
        exact kRetI hx hb hr hlk hP hD hS hf.symm rfl hQ dX7_tackTo_59
theorem kyX7_leastTack : kY yX7_leastTack cX7_leastTack 6 (some .int) wsX7_leastTack wsX7_leastTack.tail 1 := ⟨rfl, by decide, by decide, by decide +kernel⟩
set_option maxHeartbeats 4000000 in
set_option maxRecDepth 100000 in
theorem k_X7_leastTack (l : Launch) (D : va_G) (ct : ClassId × ClassId × ClassId) (z : Nat × Nat) (h : Nat) (ad : Nat → Nat) (x1 : Int32) (st : Nat → Nat → Int32)  : kC l D ct z yX7_leastTack wsX7_leastTack 3 70 [.ref h, .int x1] (mW h ad ct st) (some (.int (f_X7_leastTack x1 st))) (mW h ad ct st) := by
  refine kHead (cc := cX7_leastTack) (maxL := 6) (ret := (some .int)) [(0, .ref h), (1, .int x1)] (by decide) rfl (Nat.le_of_ble_eq_true rfl) rfl ?_
  intro p e s m args below meth c A ls R Q hRf hRl hQ hx hb hr hlk hml hown hts hA hS hK hP hD hl
  have inX7 : ∀ w ∈ wsX70, w ∈ wsX7_leastTack := fun w h => (List.mem_cons_of_mem _ (List.mem_append_right _ h))
  have hw1 := hts (Cond.fieldLink RX7 49 "MastPulpitsModel" "wins" "[Z") (List.mem_of_getElem? (i := 1) (by decide +kernel))
  have kcm6 : (-6 : Int32).toInt = -6 := by decide
  have kc0 : (0 : Int32).toInt = 0 := by decide
  have kc1 : (1 : Int32).toInt = 1 := by decide
  have kc4 : (4 : Int32).toInt = 4 := by decide
  have hf : f_X7_leastTack x1 st = f_X7_leastTack x1 st := rfl
  refine lv_bipush (v := (-6 : Int32)) hx hb dX7_leastTack_0 (by decide) ?_
  refine lv_istore_n (lv' := [(2, .int (-6 : Int32)), (0, .ref h), (1, .int x1)]) hx hb dX7_leastTack_2 rfl hl (by decide) rfl (fun ls hl => ?_)
  refine lv_iconst (v := (0 : Int32)) hx hb dX7_leastTack_3 (by decide) ?_
  refine lv_istore_n (lv' := [(3, .int (0 : Int32)), (2, .int (-6 : Int32)), (0, .ref h), (1, .int x1)]) hx hb dX7_leastTack_4 rfl hl (by decide) rfl (fun ls hl => ?_)
  have lp5 : ∀ (K : Int32 → Int32), (∀ (z5_2 : Int32), ∀ (H : Heap) (locs : List Loc) (ls : Array Slot), va_P D vwCl (mW h ad ct st) H → va_D A (mW h ad ct st) → va_S A s.heap H locs → lv_has ls 6 [(2, .int z5_2)] → f_X7_leastTack x1 st = K z5_2 → W p l e R s m args below meth c H locs 0 0 Q (F0 m 67 ls [])) → ∀ (n : Nat) (z5_3 : Int32) (z5_2 : Int32), ∀ (H : Heap) (locs : List Loc) (ls : Array Slot), (4 ≤ Int32.toInt z5_3 + (n : Int)) → va_P D vwCl (mW h ad ct st) H → va_D A (mW h ad ct st) → va_S A s.heap H locs → lv_has ls 6 [(3, .int z5_3), (2, .int z5_2), (0, .ref h), (1, .int x1)] → f_X7_leastTack x1 st = f_X7_leastTack_L5 x1 st K n z5_3 z5_2 → W p l e R s m args below meth c H locs 0 0 Q (F0 m 5 ls []) := by
    intro K hk n
    induction n with
    | zero =>
      intro z5_3 z5_2  H locs ls hn5 hP hD hS hl hf
      refine lv_iload_n hx hb dX7_leastTack_5 rfl (lv_at hl 0 rfl) ?_
      refine lv_iconst (v := (4 : Int32)) hx hb dX7_leastTack_6 (by decide) ?_
      refine lv_icmp_ge (tgt := 67) hx hb dX7_leastTack_7 (by decide) (fun c_7 => ?_) (fun c_7 => ?_)
      · have t_7 := ti_le c_7
        exact hk _ _ _ _  hP hD hS (lv_sub hl [1] rfl) hf
      · have t_7 := ti_nle c_7
        exfalso
        omega
    | succ n ih =>
      intro z5_3 z5_2  H locs ls hn5 hP hD hS hl hf
      refine lv_iload_n hx hb dX7_leastTack_5 rfl (lv_at hl 0 rfl) ?_
      refine lv_iconst (v := (4 : Int32)) hx hb dX7_leastTack_6 (by decide) ?_
      refine lv_icmp_ge (tgt := 67) hx hb dX7_leastTack_7 (by decide) (fun c_1 => ?_) (fun c_1 => ?_)
      · have hf := kIt hf c_1
        have t_1 := ti_le c_1
        exact hk _ _ _ _  hP hD hS (lv_sub hl [1] rfl) hf
      · have hf := kIf hf c_1
        have t_1 := ti_nle c_1
        refine lv_iload_n hx hb dX7_leastTack_10 rfl (lv_at hl 3 rfl) ?_
        refine lv_iload_n hx hb dX7_leastTack_11 rfl (lv_at hl 0 rfl) ?_
        have hM : kC l D ct z yX7_tackTo wsX7_tackTo 2 49 [.int x1, .int z5_3] ([]) (some (.int (f_X7_tackTo x1 z5_3))) ([]) := k_X7_tackTo l D ct z x1 z5_3
        refine kS0 (As := [.int x1, .int z5_3]) (rest := []) ⟨hx, hb, hml, hown, hts⟩ hM gX7_leastTack_X7_tackTo kyX7_tackTo (by rw [hRf, hRl]; exact ⟨Nat.le_of_ble_eq_true rfl, Nat.le_of_ble_eq_true rfl⟩) hK hP hD hS hA rfl hl.1 rfl (st1 := [.int (f_X7_tackTo x1 z5_3)]) rfl rfl ⟨Nat.zero_le _, Nat.zero_le _⟩ dX7_leastTack_12 (fun H locs hP hD hS => ?_)
        refine lv_topi (fun y15 ey15 => ?_)
        have hf := kLt hf ey15
        refine lv_istore (lv' := [(4, .int y15), (3, .int z5_3), (2, .int z5_2), (0, .ref h), (1, .int x1)]) hx hb dX7_leastTack_15 hl (by decide) rfl (fun ls hl => ?_)
        refine lv_iload hx hb dX7_leastTack_17 (lv_at hl 0 rfl) ?_
        refine kJn hf (fun j0 => ∀ (z37_s0 : Int32), (z37_s0 = 0 ∨ z37_s0 = 1) → f_X7_leastTack x1 st = j0 z37_s0 → ∀ (H : Heap) (locs : List Loc) (ls : Array Slot), va_P D vwCl (mW h ad ct st) H → va_D A (mW h ad ct st) → va_S A s.heap H locs → lv_has ls 6 [(4, .int y15), (3, .int z5_3), (2, .int z5_2), (0, .ref h), (1, .int x1)] → W p l e R s m args below meth c H locs 0 0 Q (F0 m 37 ls [.int z37_s0])) ?_ ?_
        · intro j0 hj0 z37_s0 b01_z37_s0 hf H locs ls hP hD hS hl
          subst hj0
          refine lv_istore (lv' := [(5, .int z37_s0), (4, .int y15), (3, .int z5_3), (2, .int z5_2), (0, .ref h), (1, .int x1)]) hx hb dX7_leastTack_37 hl (by decide) rfl (fun ls hl => ?_)
          refine lv_iload hx hb dX7_leastTack_39 (lv_at hl 0 rfl) ?_
          refine kJn hf (fun j0 => ∀ (z60_s0 : Int32), f_X7_leastTack x1 st = j0 z60_s0 → ∀ (H : Heap) (locs : List Loc) (ls : Array Slot), va_P D vwCl (mW h ad ct st) H → va_D A (mW h ad ct st) → va_S A s.heap H locs → lv_has ls 6 [(3, .int z5_3), (0, .ref h), (1, .int x1)] → W p l e R s m args below meth c H locs 0 0 Q (F0 m 60 ls [.int z60_s0])) ?_ ?_
          · intro j0 hj0 z60_s0  hf H locs ls hP hD hS hl
            subst hj0
            refine lv_istore_n (lv' := [(2, .int z60_s0), (3, .int z5_3), (0, .ref h), (1, .int x1)]) hx hb dX7_leastTack_60 rfl hl (by decide) rfl (fun ls hl => ?_)
            obtain ⟨y61, ey61⟩ : ∃ y : Int32, y = z5_3 + (1 : Int32) := ⟨_, rfl⟩
            have hf := kLt hf ey61
            have a61 : Int32.toInt y61 = Int32.toInt z5_3 + 1 := by have := ti_rng z5_3; rw [ey61]; exact ti_add (by rw [kc1]) (by omega) (by omega)
            refine lv_iinc (v := y61) (lv' := [(3, .int y61), (2, .int z60_s0), (0, .ref h), (1, .int x1)]) hx hb dX7_leastTack_61 hl (k := 1) rfl (by rw [ey61]; rfl) (by decide) rfl (fun ls hl => ?_)
            refine lv_goto (tgt := 5) hx hb dX7_leastTack_64 (by decide) ?_
            exact ih y61 z60_s0 _ _ _ (by first | assumption | exact vin (by omega) (by omega) | omega) hP hD hS (lv_sub hl [0, 1, 2, 3] rfl) hf
          · intro j60 hJ60 hf
            refine kJn hf (fun j0 => ∀ (u0 : Unit), f_X7_leastTack x1 st = j0 () → ∀ (H : Heap) (locs : List Loc) (ls : Array Slot), va_P D vwCl (mW h ad ct st) H → va_D A (mW h ad ct st) → va_S A s.heap H locs → lv_has ls 6 [(3, .int z5_3), (2, .int z5_2), (0, .ref h), (1, .int x1)] → W p l e R s m args below meth c H locs 0 0 Q (F0 m 59 ls [])) ?_ ?_
            · intro j0 hj0 u0  hf H locs ls hP hD hS hl
              subst hj0
              refine lv_iload_n hx hb dX7_leastTack_59 rfl (lv_at hl 1 rfl) ?_
              exact hJ60 _  hf _ _ _ hP hD hS (lv_sub hl [0, 2, 3] rfl)
            · intro j59 hJ59 hf
              refine lv_if_eq (tgt := 59) hx hb dX7_leastTack_41 (by decide) (fun c_3 => ?_) (fun c_3 => ?_)
              · have hf := kIt hf c_3
                have t_3 := ti_eq c_3
                exact hJ59 ()  hf _ _ _ hP hD hS (lv_sub hl [2, 3, 4, 5] rfl)
              · have hf := kIf hf c_3
                have t_3 := ti_ne c_3
                refine lv_iload_n hx hb dX7_leastTack_44 rfl (lv_at hl 3 rfl) ?_
                refine kJn hf (fun j0 => ∀ (u0 : Unit), f_X7_leastTack x1 st = j0 () → ∀ (H : Heap) (locs : List Loc) (ls : Array Slot), va_P D vwCl (mW h ad ct st) H → va_D A (mW h ad ct st) → va_S A s.heap H locs → lv_has ls 6 [(4, .int y15), (3, .int z5_3), (0, .ref h), (1, .int x1)] → W p l e R s m args below meth c H locs 0 0 Q (F0 m 54 ls [])) ?_ ?_
                · intro j0 hj0 u0  hf H locs ls hP hD hS hl
                  subst hj0
                  refine lv_iload hx hb dX7_leastTack_54 (lv_at hl 0 rfl) ?_
                  refine lv_goto (tgt := 60) hx hb dX7_leastTack_56 (by decide) ?_
                  exact hJ60 _  hf _ _ _ hP hD hS (lv_sub hl [1, 2, 3] rfl)
                · intro j54 hJ54 hf
                  refine lv_if_lt (tgt := 54) hx hb dX7_leastTack_45 (by decide) (fun c_4 => ?_) (fun c_4 => ?_)
                  · have hf := kIt hf c_4
                    have t_4 := ti_lt c_4
                    exact hJ54 ()  hf _ _ _ hP hD hS (lv_sub hl [1, 2, 4, 5] rfl)
                  · have hf := kIf hf c_4
                    have t_4 := ti_nlt c_4
                    refine lv_iload hx hb dX7_leastTack_48 (lv_at hl 1 rfl) ?_
                    refine lv_iload_n hx hb dX7_leastTack_50 rfl (lv_at hl 3 rfl) ?_
                    refine lv_icmp_ge (tgt := 59) hx hb dX7_leastTack_51 (by decide) (fun c_5 => ?_) (fun c_5 => ?_)
                    · have hf := kIt hf c_5
                      have t_5 := ti_le c_5
                      exact hJ59 ()  hf _ _ _ hP hD hS (lv_sub hl [2, 3, 4, 5] rfl)
                    · have hf := kIf hf c_5
                      have t_5 := ti_nle c_5
                      exact hJ54 ()  hf _ _ _ hP hD hS (lv_sub hl [1, 2, 4, 5] rfl)
        · intro j37 hJ37 hf
          refine kJn hf (fun j0 => ∀ (u0 : Unit), f_X7_leastTack x1 st = j0 () → ∀ (H : Heap) (locs : List Loc) (ls : Array Slot), va_P D vwCl (mW h ad ct st) H → va_D A (mW h ad ct st) → va_S A s.heap H locs → lv_has ls 6 [(4, .int y15), (3, .int z5_3), (2, .int z5_2), (0, .ref h), (1, .int x1)] → W p l e R s m args below meth c H locs 0 0 Q (F0 m 36 ls [])) ?_ ?_
          · intro j0 hj0 u0  hf H locs ls hP hD hS hl
            subst hj0
            refine lv_iconst (v := (0 : Int32)) hx hb dX7_leastTack_36 (by decide) ?_
            exact hJ37 _ (Or.inl rfl)  hf _ _ _ hP hD hS (lv_sub hl [0, 1, 2, 3, 4] rfl)
          · intro j36 hJ36 hf
            refine lv_if_lt (tgt := 36) hx hb dX7_leastTack_19 (by decide) (fun c_2 => ?_) (fun c_2 => ?_)
            · have hf := kIt hf c_2
              have t_2 := ti_lt c_2
              exact hJ36 ()  hf _ _ _ hP hD hS (lv_sub hl [0, 1, 2, 3, 4] rfl)
            · have hf := kIf hf c_2
              have t_2 := ti_nlt c_2
              refine lv_aload_n hx hb dX7_leastTack_22 rfl (lv_at hl 3 rfl) ?_
              refine va_get (D := D) (cl := vwCl) (ci := 6) (v := .ref (ad 29)) (C := RX7) (T := TX7) (N := 34) hx hb hts inX7 hown hK.1 hP 0 (mO h ad ct st) rfl 29 (by decide) hw1 (fun _ h => h) (mF_29 ad st) dX7_leastTack_23 ?_
              refine lv_iload hx hb dX7_leastTack_26 (lv_at hl 0 rfl) ?_
              refine va_zald hx hb hK.1 hP 14 1 (mA_29 h ad ct st) rfl (tackTo_in ey15 (by omega)) dX7_leastTack_28 ?_
              refine lv_if_ne (tgt := 36) hx hb dX7_leastTack_29 (by decide) (fun c_6 => ?_) (fun c_6 => ?_)
              · have hf := kIf hf c_6
                have t_6 := ti_ne c_6
                exact hJ36 ()  hf _ _ _ hP hD hS (lv_sub hl [0, 1, 2, 3, 4] rfl)
              · have hf := kIt hf c_6
                have t_6 := ti_eq c_6
                refine lv_iconst (v := (1 : Int32)) hx hb dX7_leastTack_32 (by decide) ?_
                refine lv_goto (tgt := 37) hx hb dX7_leastTack_33 (by decide) ?_
                exact hJ37 _ (Or.inr rfl)  hf _ _ _ hP hD hS (lv_sub hl [0, 1, 2, 3, 4] rfl)
  refine lp5 _ (fun w5_2  H locs ls  hP hD hS hl hf => ?_) (4) (0 : Int32) (-6 : Int32)  _ _ _ (by first | assumption | exact vin (by omega) (by omega) | omega) hP hD hS (lv_sub hl [0, 1, 2, 3] rfl) hf
  refine lv_iload_n hx hb dX7_leastTack_67 rfl (lv_at hl 0 rfl) ?_
  exact kRetI hx hb hr hlk hP hD hS hf.symm rfl hQ dX7_leastTack_68
theorem kyX7_tack : kY yX7_tack cX7_tack 5 (some .int) wsX7_tack wsX7_tack.tail 2 := ⟨rfl, by decide, by decide, by decide +kernel⟩
set_option maxHeartbeats 4000000 in
set_option maxRecDepth 100000 in
theorem k_X7_tack (l : Launch) (D : va_G) (ct : ClassId × ClassId × ClassId) (z : Nat × Nat) (h : Nat) (ad : Nat → Nat) (x1 : Int32) (x2 : Int32) (st : Nat → Nat → Int32)  : kC l D ct z yX7_tack wsX7_tack 4 95 [.ref h, .int x1, .int x2] (mW h ad ct st) (some (.int ((f_X7_tack x1 x2 st).1))) (mW h ad ct ((f_X7_tack x1 x2 st).2)) := by
  refine kHead (cc := cX7_tack) (maxL := 5) (ret := (some .int)) [(0, .ref h), (1, .int x1), (2, .int x2)] (by decide) rfl (Nat.le_of_ble_eq_true rfl) rfl ?_
  intro p e s m args below meth c A ls R Q hRf hRl hQ hx hb hr hlk hml hown hts hA hS hK hP hD hl
  have inX7 : ∀ w ∈ wsX70, w ∈ wsX7_tack := fun w h => (List.mem_cons_of_mem _ (List.mem_append_right _ h))
  have hw1 := hts (Cond.fieldLink RX7 49 "MastPulpitsModel" "wins" "[Z") (List.mem_of_getElem? (i := 1) (by decide +kernel))
  have kcm2 : (-2 : Int32).toInt = -2 := by decide
  have kcm1 : (-1 : Int32).toInt = -1 := by decide
  have kc0 : (0 : Int32).toInt = 0 := by decide
  have kc1 : (1 : Int32).toInt = 1 := by decide
  have kc8 : (8 : Int32).toInt = 8 := by decide
  have kc15 : (15 : Int32).toInt = 15 := by decide
  have kc64 : (64 : Int32).toInt = 64 := by decide
  have kl0 : (0 : Int64).toInt = 0 := by decide
  have kl1 : (1 : Int64).toInt = 1 := by decide
  have hf : f_X7_tack x1 x2 st = f_X7_tack x1 x2 st := rfl
  refine lv_iload_n hx hb dX7_tack_0 rfl (lv_at hl 1 rfl) ?_
  have hM : kC l D ct z yX7_isCell wsX7_isCell 1 25 [.int x1] ([]) (some (.int (f_X7_isCell x1))) ([]) := k_X7_isCell l D ct z x1
  refine kS0 (As := [.int x1]) (rest := []) ⟨hx, hb, hml, hown, hts⟩ hM gX7_tack_X7_isCell kyX7_isCell (by rw [hRf, hRl]; exact ⟨Nat.le_of_ble_eq_true rfl, Nat.le_of_ble_eq_true rfl⟩) hK hP hD hS hA rfl hl.1 rfl (st1 := [.int (f_X7_isCell x1)]) rfl rfl ⟨Nat.zero_le _, Nat.zero_le _⟩ dX7_tack_1 (fun H locs hP hD hS => ?_)
  refine lv_if_ne (tgt := 9) hx hb dX7_tack_4 (by decide) (fun c_1 => ?_) (fun c_1 => ?_)
  · have hf := kIf hf c_1
    have t_1 := ti_ne c_1; have w_1 := mcell_nz c_1
    refine lv_iload_n hx hb dX7_tack_9 rfl (lv_at hl 2 rfl) ?_
    refine lv_i2l (v := (Int32.toInt64 x2)) hx hb dX7_tack_10 rfl ?_
    refine lv_lconst (v := (0 : Int64)) hx hb dX7_tack_11 (by decide) ?_
    refine lv_lconst (v := (1 : Int64)) hx hb dX7_tack_12 (by decide) ?_
    have hM : kC l D ct z yX7_in wsX7_in 0 0 [.long (Int32.toInt64 x2), .long (0 : Int64), .long (1 : Int64)] ([]) (some (.int (f_X7_in (Int32.toInt64 x2) (0 : Int64) (1 : Int64)))) ([]) := k_X7_in l D ct z (Int32.toInt64 x2) (0 : Int64) (1 : Int64)
    refine kS0 (As := [.long (Int32.toInt64 x2), .long (0 : Int64), .long (1 : Int64)]) (rest := []) ⟨hx, hb, hml, hown, hts⟩ hM gX7_tack_X7_in kyX7_in (by rw [hRf, hRl]; exact ⟨Nat.le_of_ble_eq_true rfl, Nat.le_of_ble_eq_true rfl⟩) hK hP hD hS hA rfl hl.1 rfl (st1 := [.int (f_X7_in (Int32.toInt64 x2) (0 : Int64) (1 : Int64))]) rfl rfl ⟨Nat.zero_le _, Nat.zero_le _⟩ dX7_tack_13 (fun H locs hP hD hS => ?_)
    refine lv_if_ne (tgt := 22) hx hb dX7_tack_16 (by decide) (fun c_2 => ?_) (fun c_2 => ?_)
    · have hf := kIf hf c_2
      have t_2 := ti_ne c_2; have w_2 := in_nz c_2
      refine lv_iconst (v := (0 : Int32)) hx hb dX7_tack_22 (by decide) ?_
      refine lv_istore_n (lv' := [(3, .int (0 : Int32)), (0, .ref h), (1, .int x1), (2, .int x2)]) hx hb dX7_tack_23 rfl hl (by decide) rfl (fun ls hl => ?_)
      have lp24 : ∀ (K : (Nat → Nat → Int32) → (Int32 × (Nat → Nat → Int32))), (∀ (z24_st : Nat → Nat → Int32), ∀ (H : Heap) (locs : List Loc) (ls : Array Slot), va_P D vwCl (mW h ad ct z24_st) H → va_D A (mW h ad ct z24_st) → va_S A s.heap H locs → lv_has ls 5 [(0, .ref h), (1, .int x1), (2, .int x2)] → f_X7_tack x1 x2 st = K z24_st → W p l e R s m args below meth c H locs 0 0 Q (F0 m 88 ls [])) → ∀ (n : Nat) (z24_3 : Int32) (z24_st : Nat → Nat → Int32), ∀ (H : Heap) (locs : List Loc) (ls : Array Slot), (15 ≤ Int32.toInt z24_3 + (n : Int)) → va_P D vwCl (mW h ad ct z24_st) H → va_D A (mW h ad ct z24_st) → va_S A s.heap H locs → lv_has ls 5 [(3, .int z24_3), (0, .ref h), (1, .int x1), (2, .int x2)] → f_X7_tack x1 x2 st = f_X7_tack_L24  K n z24_3 z24_st → W p l e R s m args below meth c H locs 0 0 Q (F0 m 24 ls []) := by
        intro K hk n
        induction n with
        | zero =>
          intro z24_3 z24_st  H locs ls hn24 hP hD hS hl hf
          refine lv_iload_n hx hb dX7_tack_24 rfl (lv_at hl 0 rfl) ?_
          refine lv_bipush (v := (15 : Int32)) hx hb dX7_tack_25 (by decide) ?_
          refine lv_icmp_ge (tgt := 88) hx hb dX7_tack_27 (by decide) (fun c_8 => ?_) (fun c_8 => ?_)
          · have t_8 := ti_le c_8
            exact hk _ _ _ _  hP hD hS (lv_sub hl [1, 2, 3] rfl) hf
          · have t_8 := ti_nle c_8
            exfalso
            omega
        | succ n ih =>
          intro z24_3 z24_st  H locs ls hn24 hP hD hS hl hf
          refine lv_iload_n hx hb dX7_tack_24 rfl (lv_at hl 0 rfl) ?_
          refine lv_bipush (v := (15 : Int32)) hx hb dX7_tack_25 (by decide) ?_
          refine lv_icmp_ge (tgt := 88) hx hb dX7_tack_27 (by decide) (fun c_3 => ?_) (fun c_3 => ?_)
          · have hf := kIt hf c_3
            have t_3 := ti_le c_3
            exact hk _ _ _ _  hP hD hS (lv_sub hl [1, 2, 3] rfl) hf
          · have hf := kIf hf c_3
            have t_3 := ti_nle c_3
            refine lv_iconst (v := (0 : Int32)) hx hb dX7_tack_30 (by decide) ?_
            refine lv_istore (lv' := [(4, .int (0 : Int32)), (3, .int z24_3), (0, .ref h), (1, .int x1), (2, .int x2)]) hx hb dX7_tack_31 hl (by decide) rfl (fun ls hl => ?_)
            have lp33 : ∀ (K : (Nat → Nat → Int32) → (Int32 × (Nat → Nat → Int32))), (∀ (z33_st : Nat → Nat → Int32), ∀ (H : Heap) (locs : List Loc) (ls : Array Slot), va_P D vwCl (mW h ad ct z33_st) H → va_D A (mW h ad ct z33_st) → va_S A s.heap H locs → lv_has ls 5 [(3, .int z24_3), (0, .ref h), (1, .int x1), (2, .int x2)] → f_X7_tack x1 x2 st = K z33_st → W p l e R s m args below meth c H locs 0 0 Q (F0 m 82 ls [])) → ∀ (n : Nat) (z33_4 : Int32) (z33_st : Nat → Nat → Int32), ∀ (H : Heap) (locs : List Loc) (ls : Array Slot), (64 ≤ Int32.toInt z33_4 + (n : Int)) → (0 ≤ Int32.toInt z33_4) → va_P D vwCl (mW h ad ct z33_st) H → va_D A (mW h ad ct z33_st) → va_S A s.heap H locs → lv_has ls 5 [(4, .int z33_4), (3, .int z24_3), (0, .ref h), (1, .int x1), (2, .int x2)] → f_X7_tack x1 x2 st = f_X7_tack_L33 z24_3 K n z33_4 z33_st → W p l e R s m args below meth c H locs 0 0 Q (F0 m 33 ls []) := by
              intro K hk n
              induction n with
              | zero =>
                intro z33_4 z33_st  H locs ls hn33 hz33 hP hD hS hl hf
                refine lv_iload hx hb dX7_tack_33 (lv_at hl 0 rfl) ?_
                refine lv_bipush (v := (64 : Int32)) hx hb dX7_tack_35 (by decide) ?_
                refine lv_icmp_ge (tgt := 82) hx hb dX7_tack_37 (by decide) (fun c_7 => ?_) (fun c_7 => ?_)
                · have t_7 := ti_le c_7
                  exact hk _ _ _ _  hP hD hS (lv_sub hl [1, 2, 3, 4] rfl) hf
                · have t_7 := ti_nle c_7
                  exfalso
                  omega
              | succ n ih =>
                intro z33_4 z33_st  H locs ls hn33 hz33 hP hD hS hl hf
                refine lv_iload hx hb dX7_tack_33 (lv_at hl 0 rfl) ?_
                refine lv_bipush (v := (64 : Int32)) hx hb dX7_tack_35 (by decide) ?_
                refine lv_icmp_ge (tgt := 82) hx hb dX7_tack_37 (by decide) (fun c_4 => ?_) (fun c_4 => ?_)
                · have hf := kIt hf c_4
                  have t_4 := ti_le c_4
                  exact hk _ _ _ _  hP hD hS (lv_sub hl [1, 2, 3, 4] rfl) hf
                · have hf := kIf hf c_4
                  have t_4 := ti_nle c_4
                  refine lv_iload hx hb dX7_tack_40 (lv_at hl 0 rfl) ?_
                  refine lv_bipush (v := (8 : Int32)) hx hb dX7_tack_42 (by decide) ?_
                  refine lv_idiv hx hb dX7_tack_44 (by decide) ?_
                  refine lv_iload hx hb dX7_tack_45 (lv_at hl 0 rfl) ?_
                  refine lv_bipush (v := (8 : Int32)) hx hb dX7_tack_47 (by decide) ?_
                  refine lv_irem hx hb dX7_tack_49 (by decide) ?_
                  refine lv_iadd hx hb dX7_tack_50 ?_
                  refine lv_iload_n hx hb dX7_tack_51 rfl (lv_at hl 1 rfl) ?_
                  refine kJn hf (fun j0 => ∀ (z76_st : Nat → Nat → Int32), f_X7_tack x1 x2 st = j0 z76_st → ∀ (H : Heap) (locs : List Loc) (ls : Array Slot), va_P D vwCl (mW h ad ct z76_st) H → va_D A (mW h ad ct z76_st) → va_S A s.heap H locs → lv_has ls 5 [(4, .int z33_4), (3, .int z24_3), (0, .ref h), (1, .int x1), (2, .int x2)] → W p l e R s m args below meth c H locs 0 0 Q (F0 m 76 ls [])) ?_ ?_
                  · intro j0 hj0 z76_st  hf H locs ls hP hD hS hl
                    subst hj0
                    obtain ⟨y76, ey76⟩ : ∃ y : Int32, y = z33_4 + (1 : Int32) := ⟨_, rfl⟩
                    have hf := kLt hf ey76
                    have a76 : Int32.toInt y76 = Int32.toInt z33_4 + 1 := by have := ti_rng z33_4; rw [ey76]; exact ti_add (by rw [kc1]) (by omega) (by omega)
                    refine lv_iinc (v := y76) (lv' := [(4, .int y76), (3, .int z24_3), (0, .ref h), (1, .int x1), (2, .int x2)]) hx hb dX7_tack_76 hl (k := 0) rfl (by rw [ey76]; rfl) (by decide) rfl (fun ls hl => ?_)
                    refine lv_goto (tgt := 33) hx hb dX7_tack_79 (by decide) ?_
                    exact ih y76 z76_st _ _ _ (by first | assumption | exact vin (by omega) (by omega) | omega) (by first | assumption | exact vin (by omega) (by omega) | omega) hP hD hS (lv_sub hl [0, 1, 2, 3, 4] rfl) hf
                  · intro j76 hJ76 hf
                    refine lv_icmp_ne (tgt := 76) hx hb dX7_tack_52 (by decide) (fun c_5 => ?_) (fun c_5 => ?_)
                    · have hf := kIf hf c_5
                      have t_5 := ti_ne c_5
                      exact hJ76 _  hf _ _ _ hP hD hS (lv_sub hl [0, 1, 2, 3, 4] rfl)
                    · have hf := kIt hf c_5
                      have t_5 := ti_eq c_5
                      refine lv_aload_n hx hb dX7_tack_55 rfl (lv_at hl 2 rfl) ?_
                      refine va_get (D := D) (cl := vwCl) (ci := 6) (v := .ref (ad 29)) (C := RX7) (T := TX7) (N := 34) hx hb hts inX7 hown hK.1 hP 0 (mO h ad ct z33_st) rfl 29 (by decide) hw1 (fun _ h => h) (mF_29 ad z33_st) dX7_tack_56 ?_
                      refine lv_iload hx hb dX7_tack_59 (lv_at hl 0 rfl) ?_
                      refine lv_aload_n hx hb dX7_tack_61 rfl (lv_at hl 2 rfl) ?_
                      refine lv_iload hx hb dX7_tack_62 (lv_at hl 0 rfl) ?_
                      have hM : kC l D ct z yX7_leastTack wsX7_leastTack 3 70 [.ref h, .int z33_4] (mW h ad ct z33_st) (some (.int (f_X7_leastTack z33_4 z33_st))) (mW h ad ct z33_st) := k_X7_leastTack l D ct z h ad z33_4 z33_st
                      refine kV1 (As := [.int z33_4]) (rest := [.int z33_4, .ref (ad 29)]) ⟨hx, hb, hml, hown, hts⟩ hM gX7_tack_X7_leastTack kyX7_leastTack (by rw [hRf, hRl]; exact ⟨Nat.le_of_ble_eq_true rfl, Nat.le_of_ble_eq_true rfl⟩) hK hP hD hS hA 0 (mO h ad ct z33_st) rfl rfl rfl hl.1 rfl (st1 := [.int (f_X7_leastTack z33_4 z33_st), .int z33_4, .ref (ad 29)]) rfl rfl ⟨Nat.zero_le _, Nat.zero_le _⟩ dX7_tack_64 (fun H locs hP hD hS => ?_)
                      refine kJn hf (fun j0 => ∀ (z75_s0 : Int32), (z75_s0 = 0 ∨ z75_s0 = 1) → f_X7_tack x1 x2 st = j0 z75_s0 → ∀ (H : Heap) (locs : List Loc) (ls : Array Slot), va_P D vwCl (mW h ad ct z33_st) H → va_D A (mW h ad ct z33_st) → va_S A s.heap H locs → lv_has ls 5 [(4, .int z33_4), (3, .int z24_3), (0, .ref h), (1, .int x1), (2, .int x2)] → W p l e R s m args below meth c H locs 0 0 Q (F0 m 75 ls [.int z75_s0, .int z33_4, .ref (ad 29)])) ?_ ?_
                      · intro j0 hj0 z75_s0 b01_z75_s0 hf H locs ls hP hD hS hl
                        subst hj0
                        refine kZast (W1 := mW h ad ct (u2 z33_st 30 ((Int32.toNatClampNeg z33_4)) z75_s0)) hx hb hK hP hD hS 14 (mA_29 h ad ct z33_st) b01_z75_s0 (by first | assumption | exact vin (by omega) (by omega) | omega) (mB_29 h ad ct z33_st _ _) dX7_tack_75 (fun H locs hP hD hS => ?_)
                        exact hJ76 _  hf _ _ _ hP hD hS (lv_sub hl [0, 1, 2, 3, 4] rfl)
                      · intro j75 hJ75 hf
                        refine lv_if_lt (tgt := 74) hx hb dX7_tack_67 (by decide) (fun c_6 => ?_) (fun c_6 => ?_)
                        · have hf := kIt hf c_6
                          have t_6 := ti_lt c_6
                          refine lv_iconst (v := (0 : Int32)) hx hb dX7_tack_74 (by decide) ?_
                          exact hJ75 _ (Or.inl rfl)  hf _ _ _ hP hD hS (lv_sub hl [0, 1, 2, 3, 4] rfl)
                        · have hf := kIf hf c_6
                          have t_6 := ti_nlt c_6
                          refine lv_iconst (v := (1 : Int32)) hx hb dX7_tack_70 (by decide) ?_
                          refine lv_goto (tgt := 75) hx hb dX7_tack_71 (by decide) ?_
                          exact hJ75 _ (Or.inr rfl)  hf _ _ _ hP hD hS (lv_sub hl [0, 1, 2, 3, 4] rfl)
            refine lp33 _ (fun w33_st  H locs ls  hP hD hS hl hf => ?_) (64) (0 : Int32) z24_st  _ _ _ (by first | assumption | exact vin (by omega) (by omega) | omega) (by first | assumption | exact vin (by omega) (by omega) | omega) hP hD hS (lv_sub hl [0, 1, 2, 3, 4] rfl) hf
            obtain ⟨y82, ey82⟩ : ∃ y : Int32, y = z24_3 + (1 : Int32) := ⟨_, rfl⟩
            have hf := kLt hf ey82
            have a82 : Int32.toInt y82 = Int32.toInt z24_3 + 1 := by have := ti_rng z24_3; rw [ey82]; exact ti_add (by rw [kc1]) (by omega) (by omega)
            refine lv_iinc (v := y82) (lv' := [(3, .int y82), (0, .ref h), (1, .int x1), (2, .int x2)]) hx hb dX7_tack_82 hl (k := 0) rfl (by rw [ey82]; rfl) (by decide) rfl (fun ls hl => ?_)
            refine lv_goto (tgt := 24) hx hb dX7_tack_85 (by decide) ?_
            exact ih y82 w33_st _ _ _ (by first | assumption | exact vin (by omega) (by omega) | omega) hP hD hS (lv_sub hl [0, 1, 2, 3] rfl) hf
      refine lp24 _ (fun w24_st  H locs ls  hP hD hS hl hf => ?_) (15) (0 : Int32) st  _ _ _ (by first | assumption | exact vin (by omega) (by omega) | omega) hP hD hS (lv_sub hl [0, 1, 2, 3] rfl) hf
      refine lv_iload_n hx hb dX7_tack_88 rfl (lv_at hl 2 rfl) ?_
      refine lv_iconst (v := (1 : Int32)) hx hb dX7_tack_89 (by decide) ?_
      refine lv_icmp_ne (tgt := 101) hx hb dX7_tack_90 (by decide) (fun c_9 => ?_) (fun c_9 => ?_)
      · have hf := kIf hf c_9
        have t_9 := ti_ne c_9
        refine lv_aload_n hx hb dX7_tack_101 rfl (lv_at hl 0 rfl) ?_
        refine va_get (D := D) (cl := vwCl) (ci := 6) (v := .ref (ad 29)) (C := RX7) (T := TX7) (N := 34) hx hb hts inX7 hown hK.1 hP 0 (mO h ad ct w24_st) rfl 29 (by decide) hw1 (fun _ h => h) (mF_29 ad w24_st) dX7_tack_102 ?_
        refine lv_iload_n hx hb dX7_tack_105 rfl (lv_at hl 1 rfl) ?_
        refine va_zald hx hb hK.1 hP 14 1 (mA_29 h ad ct w24_st) rfl (by first | assumption | exact vin (by omega) (by omega) | omega) dX7_tack_106 ?_
        refine lv_if_eq (tgt := 114) hx hb dX7_tack_107 (by decide) (fun c_10 => ?_) (fun c_10 => ?_)
        · have hf := kIt hf c_10
          have t_10 := ti_eq c_10
          refine lv_iconst (v := (0 : Int32)) hx hb dX7_tack_114 (by decide) ?_
          exact kRetI hx hb hr hlk hP hD hS (kfst hf) ((congrArg (fun q => mW h ad ct q.2) hf).symm) hQ dX7_tack_115
        · have hf := kIf hf c_10
          have t_10 := ti_ne c_10
          refine lv_iconst (v := (1 : Int32)) hx hb dX7_tack_110 (by decide) ?_
          refine lv_goto (tgt := 115) hx hb dX7_tack_111 (by decide) ?_
          exact kRetI hx hb hr hlk hP hD hS (kfst hf) ((congrArg (fun q => mW h ad ct q.2) hf).symm) hQ dX7_tack_115
      · have hf := kIt hf c_9
        have t_9 := ti_eq c_9
        refine lv_aload_n hx hb dX7_tack_93 rfl (lv_at hl 0 rfl) ?_
        refine lv_iload_n hx hb dX7_tack_94 rfl (lv_at hl 1 rfl) ?_
        have hM : kC l D ct z yX7_leastTack wsX7_leastTack 3 70 [.ref h, .int x1] (mW h ad ct w24_st) (some (.int (f_X7_leastTack x1 w24_st))) (mW h ad ct w24_st) := k_X7_leastTack l D ct z h ad x1 w24_st
        refine kV1 (As := [.int x1]) (rest := []) ⟨hx, hb, hml, hown, hts⟩ hM gX7_tack_X7_leastTack kyX7_leastTack (by rw [hRf, hRl]; exact ⟨Nat.le_of_ble_eq_true rfl, Nat.le_of_ble_eq_true rfl⟩) hK hP hD hS hA 0 (mO h ad ct w24_st) rfl rfl rfl hl.1 rfl (st1 := [.int (f_X7_leastTack x1 w24_st)]) rfl rfl ⟨Nat.zero_le _, Nat.zero_le _⟩ dX7_tack_95 (fun H locs hP hD hS => ?_)
        refine lv_goto (tgt := 115) hx hb dX7_tack_98 (by decide) ?_
        exact kRetI hx hb hr hlk hP hD hS (kfst hf) ((congrArg (fun q => mW h ad ct q.2) hf).symm) hQ dX7_tack_115
    · have hf := kIt hf c_2
      have t_2 := ti_eq c_2
      refine lv_bipush (v := (-2 : Int32)) hx hb dX7_tack_19 (by decide) ?_
      exact kRetI hx hb hr hlk hP hD hS (kfst hf) ((congrArg (fun q => mW h ad ct q.2) hf).symm) hQ dX7_tack_21
  · have hf := kIt hf c_1
    have t_1 := ti_eq c_1
    refine lv_iconst (v := (-1 : Int32)) hx hb dX7_tack_7 (by decide) ?_
    exact kRetI hx hb hr hlk hP hD hS (kfst hf) ((congrArg (fun q => mW h ad ct q.2) hf).symm) hQ dX7_tack_8
theorem kyX7_lowest : kY yX7_lowest cX7_lowest 11 (some .long) wsX7_lowest wsX7_lowest.tail 3 := ⟨rfl, by decide, by decide, by decide +kernel⟩
set_option maxHeartbeats 4000000 in
set_option maxRecDepth 100000 in
theorem k_X7_lowest (l : Launch) (D : va_G) (ct : ClassId × ClassId × ClassId) (z : Nat × Nat)  (x0 : Int64) (x2 : Int64) (x4 : Int32) (hp : 0 ≤ Int64.toInt x0 ∧ 0 < Int64.toInt x2) : kC l D ct z yX7_lowest wsX7_lowest 0 0 [.long x0, .long x2, .int x4] ([]) (some (.long (f_X7_lowest x0 x2 x4))) ([]) := by
  refine kHead (cc := cX7_lowest) (maxL := 11) (ret := (some .long)) [(0, .long x0), (2, .long x2), (4, .int x4)] (by decide) rfl (Nat.le_of_ble_eq_true rfl) rfl ?_
  intro p e s m args below meth c A ls R Q hRf hRl hQ hx hb hr hlk hml hown hts hA hS hK hP hD hl
  have kc0 : (0 : Int32).toInt = 0 := by decide
  have kl0 : (0 : Int64).toInt = 0 := by decide
  have hf : f_X7_lowest x0 x2 x4 = f_X7_lowest x0 x2 x4 := rfl
  refine lv_lload_n hx hb dX7_lowest_0 rfl (lv_at hl 1 rfl) ?_
  refine lv_lstore (lv' := [(5, .long x2), (0, .long x0), (2, .long x2), (4, .int x4)]) hx hb dX7_lowest_1 hl (by decide) rfl (fun ls hl => ?_)
  refine lv_lload_n hx hb dX7_lowest_3 rfl (lv_at hl 1 rfl) ?_
  refine lv_lstore (lv' := [(7, .long x0), (5, .long x2), (0, .long x0), (2, .long x2), (4, .int x4)]) hx hb dX7_lowest_4 hl (by decide) rfl (fun ls hl => ?_)
  have lp6 : ∀ (K : Int64 → Int64), (∀ (z6_5 : Int64), ∀ (H : Heap) (locs : List Loc) (ls : Array Slot), (0 < Int64.toInt z6_5) → va_P D vwCl ([]) H → va_D A ([]) → va_S A s.heap H locs → lv_has ls 11 [(5, .long z6_5), (0, .long x0), (2, .long x2), (4, .int x4)] → f_X7_lowest x0 x2 x4 = K z6_5 → W p l e R s m args below meth c H locs 0 0 Q (F0 m 31 ls [])) → ∀ (n : Nat) (z6_7 : Int64) (z6_5 : Int64), ∀ (H : Heap) (locs : List Loc) (ls : Array Slot), (Int64.toInt z6_7 < (n : Int)) → (0 ≤ Int64.toInt z6_7) → (0 < Int64.toInt z6_5) → va_P D vwCl ([]) H → va_D A ([]) → va_S A s.heap H locs → lv_has ls 11 [(7, .long z6_7), (5, .long z6_5), (0, .long x0), (2, .long x2), (4, .int x4)] → f_X7_lowest x0 x2 x4 = f_X7_lowest_L6  K n z6_7 z6_5 → W p l e R s m args below meth c H locs 0 0 Q (F0 m 6 ls []) := by
    intro K hk n
    induction n with
    | zero =>
      intro z6_7 z6_5  H locs ls hn6 hb6 hp6 hP hD hS hl hf
      refine lv_lload hx hb dX7_lowest_6 (lv_at hl 0 rfl) ?_
      refine lv_lconst (v := (0 : Int64)) hx hb dX7_lowest_8 (by decide) ?_
      refine W.lcmp hx hb dX7_lowest_9 ?_
      refine lv_if_eq (tgt := 31) hx hb dX7_lowest_10 (by decide) (fun c_2 => ?_) (fun c_2 => ?_)
      · have t_2 := ti_eq c_2
        exact hk _ _ _ _ (by first | assumption | exact vin (by omega) (by omega) | omega) hP hD hS (lv_sub hl [1, 2, 3, 4] rfl) hf
      · have t_2 := ti_ne c_2; have w_2 := lgc_ne c_2
        exfalso
        omega
    | succ n ih =>
      intro z6_7 z6_5  H locs ls hn6 hb6 hp6 hP hD hS hl hf
      refine lv_lload hx hb dX7_lowest_6 (lv_at hl 0 rfl) ?_
      refine lv_lconst (v := (0 : Int64)) hx hb dX7_lowest_8 (by decide) ?_
      refine W.lcmp hx hb dX7_lowest_9 ?_
      refine lv_if_eq (tgt := 31) hx hb dX7_lowest_10 (by decide) (fun c_1 => ?_) (fun c_1 => ?_)
      · have hf := kIt hf c_1
        have t_1 := ti_eq c_1
        exact hk _ _ _ _ (by first | assumption | exact vin (by omega) (by omega) | omega) hP hD hS (lv_sub hl [1, 2, 3, 4] rfl) hf
      · have hf := kIf hf c_1
        have t_1 := ti_ne c_1; have w_1 := lgc_ne c_1
        refine lv_lload hx hb dX7_lowest_13 (lv_at hl 1 rfl) ?_
        refine lv_lload hx hb dX7_lowest_15 (lv_at hl 0 rfl) ?_
        refine lv_lrem hx hb dX7_lowest_17 (fun q => by have := congrArg Int64.toInt q; omega) ?_
        refine lv_topl (fun y18 ey18 => ?_)
        have hf := kLt hf ey18
        have g18 := jrL_rng (a := z6_5) (b := z6_7) (by omega) (by omega)
        rw [← show y18 = jrL z6_5 z6_7 from ey18] at g18
        refine lv_lstore (lv' := [(9, .long y18), (7, .long z6_7), (5, .long z6_5), (0, .long x0), (2, .long x2), (4, .int x4)]) hx hb dX7_lowest_18 hl (by decide) rfl (fun ls hl => ?_)
        refine lv_lload hx hb dX7_lowest_20 (lv_at hl 1 rfl) ?_
        refine lv_lstore (lv' := [(5, .long z6_7), (9, .long y18), (7, .long z6_7), (0, .long x0), (2, .long x2), (4, .int x4)]) hx hb dX7_lowest_22 hl (by decide) rfl (fun ls hl => ?_)
        refine lv_lload hx hb dX7_lowest_24 (lv_at hl 1 rfl) ?_
        refine lv_lstore (lv' := [(7, .long y18), (5, .long z6_7), (9, .long y18), (0, .long x0), (2, .long x2), (4, .int x4)]) hx hb dX7_lowest_26 hl (by decide) rfl (fun ls hl => ?_)
        refine lv_goto (tgt := 6) hx hb dX7_lowest_28 (by decide) ?_
        exact ih y18 z6_7 _ _ _ (by first | assumption | exact vin (by omega) (by omega) | omega) (by first | assumption | exact vin (by omega) (by omega) | omega) (by first | assumption | exact vin (by omega) (by omega) | omega) hP hD hS (lv_sub hl [0, 1, 3, 4, 5] rfl) hf
  refine lp6 _ (fun w6_5  H locs ls hp6 hP hD hS hl hf => ?_) ((Int64.toInt x0).toNat + 1) x0 x2  _ _ _ (by first | assumption | exact vin (by omega) (by omega) | omega) (by first | assumption | exact vin (by omega) (by omega) | omega) (by first | assumption | exact vin (by omega) (by omega) | omega) hP hD hS (lv_sub hl [0, 1, 2, 3, 4] rfl) hf
  refine lv_iload hx hb dX7_lowest_31 (lv_at hl 3 rfl) ?_
  refine lv_if_ne (tgt := 43) hx hb dX7_lowest_33 (by decide) (fun c_3 => ?_) (fun c_3 => ?_)
  · have hf := kIf hf c_3
    have t_3 := ti_ne c_3
    refine lv_lload_n hx hb dX7_lowest_43 rfl (lv_at hl 2 rfl) ?_
    refine lv_lload hx hb dX7_lowest_44 (lv_at hl 0 rfl) ?_
    refine lv_ldiv hx hb dX7_lowest_46 (fun q => by have := congrArg Int64.toInt q; omega) ?_
    exact kRetL hx hb hr hlk hP hD hS hf.symm rfl hQ dX7_lowest_47
  · have hf := kIt hf c_3
    have t_3 := ti_eq c_3
    refine lv_lload_n hx hb dX7_lowest_36 rfl (lv_at hl 1 rfl) ?_
    refine lv_lload hx hb dX7_lowest_37 (lv_at hl 0 rfl) ?_
    refine lv_ldiv hx hb dX7_lowest_39 (fun q => by have := congrArg Int64.toInt q; omega) ?_
    refine lv_goto (tgt := 47) hx hb dX7_lowest_40 (by decide) ?_
    exact kRetL hx hb hr hlk hP hD hS hf.symm rfl hQ dX7_lowest_47
theorem kyX7_first : kY yX7_first cX7_first 14 (some .long) wsX7_first wsX7_first.tail 5 := ⟨rfl, by decide, by decide, by decide +kernel⟩
set_option maxHeartbeats 4000000 in
set_option maxRecDepth 100000 in
theorem k_X7_first (l : Launch) (D : va_G) (ct : ClassId × ClassId × ClassId) (z : Nat × Nat) (h : Nat) (ad : Nat → Nat) (x1 : Int32) (x2 : Int32) (x3 : Int32) (x4 : Int32) (x5 : Int32) (st : Nat → Nat → Int32)  : kC l D ct z yX7_first wsX7_first 1 30 [.ref h, .int x1, .int x2, .int x3, .int x4, .int x5] (mW h ad ct st) (some (.long (f_X7_first x1 x2 x3 x4 x5 st))) (mW h ad ct st) := by
  refine kHead (cc := cX7_first) (maxL := 14) (ret := (some .long)) [(0, .ref h), (1, .int x1), (2, .int x2), (3, .int x3), (4, .int x4), (5, .int x5)] (by decide) rfl (Nat.le_of_ble_eq_true rfl) rfl ?_
  intro p e s m args below meth c A ls R Q hRf hRl hQ hx hb hr hlk hml hown hts hA hS hK hP hD hl
  have hw1 := hts (Cond.constantLong RX7 277 (10)) (List.mem_of_getElem? (i := 1) (by decide +kernel))
  have hw2 := hts (Cond.constantLong RX7 279 (16)) (List.mem_of_getElem? (i := 2) (by decide +kernel))
  have hw3 := hts (Cond.constantLong RX7 208 (2)) (List.mem_of_getElem? (i := 3) (by decide +kernel))
  have hw4 := hts (Cond.constantLong RX7 281 (-1000000000000000002)) (List.mem_of_getElem? (i := 4) (by decide +kernel))
  have kc0 : (0 : Int32).toInt = 0 := by decide
  have kc1 : (1 : Int32).toInt = 1 := by decide
  have kc2 : (2 : Int32).toInt = 2 := by decide
  have kc10 : (10 : Int32).toInt = 10 := by decide
  have klm1000000000000000002 : (-1000000000000000002 : Int64).toInt = -1000000000000000002 := by decide
  have kl0 : (0 : Int64).toInt = 0 := by decide
  have kl1 : (1 : Int64).toInt = 1 := by decide
  have kl2 : (2 : Int64).toInt = 2 := by decide
  have kl10 : (10 : Int64).toInt = 10 := by decide
  have kl16 : (16 : Int64).toInt = 16 := by decide
  have hf : f_X7_first x1 x2 x3 x4 x5 st = f_X7_first x1 x2 x3 x4 x5 st := rfl
  refine lv_iload_n hx hb dX7_first_0 rfl (lv_at hl 1 rfl) ?_
  refine lv_i2l (v := (Int32.toInt64 x1)) hx hb dX7_first_1 rfl ?_
  refine lv_lconst (v := (0 : Int64)) hx hb dX7_first_2 (by decide) ?_
  refine lv_ldc2 (v := (10 : Int64)) hx hb hown hw1 dX7_first_3 ?_
  have hM : kC l D ct z yX7_in wsX7_in 0 0 [.long (Int32.toInt64 x1), .long (0 : Int64), .long (10 : Int64)] ([]) (some (.int (f_X7_in (Int32.toInt64 x1) (0 : Int64) (10 : Int64)))) ([]) := k_X7_in l D ct z (Int32.toInt64 x1) (0 : Int64) (10 : Int64)
  refine kS0 (As := [.long (Int32.toInt64 x1), .long (0 : Int64), .long (10 : Int64)]) (rest := []) ⟨hx, hb, hml, hown, hts⟩ hM gX7_first_X7_in kyX7_in (by rw [hRf, hRl]; exact ⟨Nat.le_of_ble_eq_true rfl, Nat.le_of_ble_eq_true rfl⟩) hK hP hD hS hA rfl hl.1 rfl (st1 := [.int (f_X7_in (Int32.toInt64 x1) (0 : Int64) (10 : Int64))]) rfl rfl ⟨Nat.zero_le _, Nat.zero_le _⟩ dX7_first_6 (fun H locs hP hD hS => ?_)
  refine kJn hf (fun j0 => ∀ (u0 : Unit), f_X7_first x1 x2 x3 x4 x5 st = j0 () → ∀ (H : Heap) (locs : List Loc) (ls : Array Slot), va_P D vwCl (mW h ad ct st) H → va_D A (mW h ad ct st) → va_S A s.heap H locs → lv_has ls 14 [] → W p l e R s m args below meth c H locs 0 0 Q (F0 m 60 ls [])) ?_ ?_
  · intro j0 hj0 u0  hf H locs ls hP hD hS hl
    subst hj0
    refine lv_ldc2 (v := (-1000000000000000002 : Int64)) hx hb hown hw4 dX7_first_60 ?_
    exact kRetL hx hb hr hlk hP hD hS hf.symm rfl hQ dX7_first_63
  · intro j60 hJ60 hf
    refine lv_if_eq (tgt := 60) hx hb dX7_first_9 (by decide) (fun c_1 => ?_) (fun c_1 => ?_)
    · have hf := kIt hf c_1
      have t_1 := ti_eq c_1
      exact hJ60 ()  hf _ _ _ hP hD hS (lv_sub hl [] rfl)
    · have hf := kIf hf c_1
      have t_1 := ti_ne c_1; have w_1 := in_nz c_1
      refine lv_iload_n hx hb dX7_first_12 rfl (lv_at hl 2 rfl) ?_
      refine lv_i2l (v := (Int32.toInt64 x2)) hx hb dX7_first_13 rfl ?_
      refine lv_lconst (v := (0 : Int64)) hx hb dX7_first_14 (by decide) ?_
      refine lv_ldc2 (v := (10 : Int64)) hx hb hown hw1 dX7_first_15 ?_
      have hM : kC l D ct z yX7_in wsX7_in 0 0 [.long (Int32.toInt64 x2), .long (0 : Int64), .long (10 : Int64)] ([]) (some (.int (f_X7_in (Int32.toInt64 x2) (0 : Int64) (10 : Int64)))) ([]) := k_X7_in l D ct z (Int32.toInt64 x2) (0 : Int64) (10 : Int64)
      refine kS0 (As := [.long (Int32.toInt64 x2), .long (0 : Int64), .long (10 : Int64)]) (rest := []) ⟨hx, hb, hml, hown, hts⟩ hM gX7_first_X7_in kyX7_in (by rw [hRf, hRl]; exact ⟨Nat.le_of_ble_eq_true rfl, Nat.le_of_ble_eq_true rfl⟩) hK hP hD hS hA rfl hl.1 rfl (st1 := [.int (f_X7_in (Int32.toInt64 x2) (0 : Int64) (10 : Int64))]) rfl rfl ⟨Nat.zero_le _, Nat.zero_le _⟩ dX7_first_18 (fun H locs hP hD hS => ?_)
      refine lv_if_eq (tgt := 60) hx hb dX7_first_21 (by decide) (fun c_2 => ?_) (fun c_2 => ?_)
      · have hf := kIt hf c_2
        have t_2 := ti_eq c_2
        exact hJ60 ()  hf _ _ _ hP hD hS (lv_sub hl [] rfl)
      · have hf := kIf hf c_2
        have t_2 := ti_ne c_2; have w_2 := in_nz c_2
        refine lv_iload_n hx hb dX7_first_24 rfl (lv_at hl 3 rfl) ?_
        refine lv_i2l (v := (Int32.toInt64 x3)) hx hb dX7_first_25 rfl ?_
        refine lv_lconst (v := (0 : Int64)) hx hb dX7_first_26 (by decide) ?_
        refine lv_ldc2 (v := (16 : Int64)) hx hb hown hw2 dX7_first_27 ?_
        have hM : kC l D ct z yX7_in wsX7_in 0 0 [.long (Int32.toInt64 x3), .long (0 : Int64), .long (16 : Int64)] ([]) (some (.int (f_X7_in (Int32.toInt64 x3) (0 : Int64) (16 : Int64)))) ([]) := k_X7_in l D ct z (Int32.toInt64 x3) (0 : Int64) (16 : Int64)
        refine kS0 (As := [.long (Int32.toInt64 x3), .long (0 : Int64), .long (16 : Int64)]) (rest := []) ⟨hx, hb, hml, hown, hts⟩ hM gX7_first_X7_in kyX7_in (by rw [hRf, hRl]; exact ⟨Nat.le_of_ble_eq_true rfl, Nat.le_of_ble_eq_true rfl⟩) hK hP hD hS hA rfl hl.1 rfl (st1 := [.int (f_X7_in (Int32.toInt64 x3) (0 : Int64) (16 : Int64))]) rfl rfl ⟨Nat.zero_le _, Nat.zero_le _⟩ dX7_first_30 (fun H locs hP hD hS => ?_)
        refine lv_if_eq (tgt := 60) hx hb dX7_first_33 (by decide) (fun c_3 => ?_) (fun c_3 => ?_)
        · have hf := kIt hf c_3
          have t_3 := ti_eq c_3
          exact hJ60 ()  hf _ _ _ hP hD hS (lv_sub hl [] rfl)
        · have hf := kIf hf c_3
          have t_3 := ti_ne c_3; have w_3 := in_nz c_3
          refine lv_iload hx hb dX7_first_36 (lv_at hl 4 rfl) ?_
          refine lv_i2l (v := (Int32.toInt64 x4)) hx hb dX7_first_38 rfl ?_
          refine lv_lconst (v := (0 : Int64)) hx hb dX7_first_39 (by decide) ?_
          refine lv_ldc2 (v := (2 : Int64)) hx hb hown hw3 dX7_first_40 ?_
          have hM : kC l D ct z yX7_in wsX7_in 0 0 [.long (Int32.toInt64 x4), .long (0 : Int64), .long (2 : Int64)] ([]) (some (.int (f_X7_in (Int32.toInt64 x4) (0 : Int64) (2 : Int64)))) ([]) := k_X7_in l D ct z (Int32.toInt64 x4) (0 : Int64) (2 : Int64)
          refine kS0 (As := [.long (Int32.toInt64 x4), .long (0 : Int64), .long (2 : Int64)]) (rest := []) ⟨hx, hb, hml, hown, hts⟩ hM gX7_first_X7_in kyX7_in (by rw [hRf, hRl]; exact ⟨Nat.le_of_ble_eq_true rfl, Nat.le_of_ble_eq_true rfl⟩) hK hP hD hS hA rfl hl.1 rfl (st1 := [.int (f_X7_in (Int32.toInt64 x4) (0 : Int64) (2 : Int64))]) rfl rfl ⟨Nat.zero_le _, Nat.zero_le _⟩ dX7_first_43 (fun H locs hP hD hS => ?_)
          refine lv_if_eq (tgt := 60) hx hb dX7_first_46 (by decide) (fun c_4 => ?_) (fun c_4 => ?_)
          · have hf := kIt hf c_4
            have t_4 := ti_eq c_4
            exact hJ60 ()  hf _ _ _ hP hD hS (lv_sub hl [] rfl)
          · have hf := kIf hf c_4
            have t_4 := ti_ne c_4; have w_4 := in_nz c_4
            refine lv_iload hx hb dX7_first_49 (lv_at hl 5 rfl) ?_
            refine lv_i2l (v := (Int32.toInt64 x5)) hx hb dX7_first_51 rfl ?_
            refine lv_lconst (v := (0 : Int64)) hx hb dX7_first_52 (by decide) ?_
            refine lv_lconst (v := (1 : Int64)) hx hb dX7_first_53 (by decide) ?_
            have hM : kC l D ct z yX7_in wsX7_in 0 0 [.long (Int32.toInt64 x5), .long (0 : Int64), .long (1 : Int64)] ([]) (some (.int (f_X7_in (Int32.toInt64 x5) (0 : Int64) (1 : Int64)))) ([]) := k_X7_in l D ct z (Int32.toInt64 x5) (0 : Int64) (1 : Int64)
            refine kS0 (As := [.long (Int32.toInt64 x5), .long (0 : Int64), .long (1 : Int64)]) (rest := []) ⟨hx, hb, hml, hown, hts⟩ hM gX7_first_X7_in kyX7_in (by rw [hRf, hRl]; exact ⟨Nat.le_of_ble_eq_true rfl, Nat.le_of_ble_eq_true rfl⟩) hK hP hD hS hA rfl hl.1 rfl (st1 := [.int (f_X7_in (Int32.toInt64 x5) (0 : Int64) (1 : Int64))]) rfl rfl ⟨Nat.zero_le _, Nat.zero_le _⟩ dX7_first_54 (fun H locs hP hD hS => ?_)
            refine lv_if_ne (tgt := 64) hx hb dX7_first_57 (by decide) (fun c_5 => ?_) (fun c_5 => ?_)
            · have hf := kIf hf c_5
              have t_5 := ti_ne c_5; have w_5 := in_nz c_5
              refine lv_lconst (v := (0 : Int64)) hx hb dX7_first_64 (by decide) ?_
              refine lv_lstore (lv' := [(6, .long (0 : Int64)), (0, .ref h), (1, .int x1), (2, .int x2), (3, .int x3), (4, .int x4), (5, .int x5)]) hx hb dX7_first_65 hl (by decide) rfl (fun ls hl => ?_)
              refine lv_lconst (v := (0 : Int64)) hx hb dX7_first_67 (by decide) ?_
              refine lv_lstore (lv' := [(8, .long (0 : Int64)), (6, .long (0 : Int64)), (0, .ref h), (1, .int x1), (2, .int x2), (3, .int x3), (4, .int x4), (5, .int x5)]) hx hb dX7_first_68 hl (by decide) rfl (fun ls hl => ?_)
              refine lv_lconst (v := (1 : Int64)) hx hb dX7_first_70 (by decide) ?_
              refine lv_lstore (lv' := [(10, .long (1 : Int64)), (8, .long (0 : Int64)), (6, .long (0 : Int64)), (0, .ref h), (1, .int x1), (2, .int x2), (3, .int x3), (4, .int x4), (5, .int x5)]) hx hb dX7_first_71 hl (by decide) rfl (fun ls hl => ?_)
              refine lv_iconst (v := (0 : Int32)) hx hb dX7_first_73 (by decide) ?_
              refine lv_istore (lv' := [(12, .int (0 : Int32)), (10, .long (1 : Int64)), (8, .long (0 : Int64)), (6, .long (0 : Int64)), (0, .ref h), (1, .int x1), (2, .int x2), (3, .int x3), (4, .int x4), (5, .int x5)]) hx hb dX7_first_74 hl (by decide) rfl (fun ls hl => ?_)
              have lp76 : ∀ (K : Int64 → Int64 → Int64 → Int64), (∀ (z76_10 : Int64) (z76_8 : Int64) (z76_6 : Int64), ∀ (H : Heap) (locs : List Loc) (ls : Array Slot), (fJ z76_6 z76_8 z76_10) → va_P D vwCl (mW h ad ct st) H → va_D A (mW h ad ct st) → va_S A s.heap H locs → lv_has ls 14 [(10, .long z76_10), (8, .long z76_8), (6, .long z76_6), (4, .int x4), (5, .int x5)] → f_X7_first x1 x2 x3 x4 x5 st = K z76_10 z76_8 z76_6 → W p l e R s m args below meth c H locs 0 0 Q (F0 m 159 ls [])) → ∀ (n : Nat) (z76_12 : Int32) (z76_10 : Int64) (z76_8 : Int64) (z76_6 : Int64), ∀ (H : Heap) (locs : List Loc) (ls : Array Slot), (Int32.toInt x3 ≤ Int32.toInt z76_12 + (n : Int)) → (0 ≤ Int32.toInt z76_12) → (fI z76_12 z76_6 z76_8 z76_10) → (fJ z76_6 z76_8 z76_10) → va_P D vwCl (mW h ad ct st) H → va_D A (mW h ad ct st) → va_S A s.heap H locs → lv_has ls 14 [(12, .int z76_12), (10, .long z76_10), (8, .long z76_8), (6, .long z76_6), (1, .int x1), (2, .int x2), (3, .int x3), (4, .int x4), (5, .int x5)] → f_X7_first x1 x2 x3 x4 x5 st = f_X7_first_L76 x1 x2 x3 K n z76_12 z76_10 z76_8 z76_6 → W p l e R s m args below meth c H locs 0 0 Q (F0 m 76 ls []) := by
                intro K hk n
                induction n with
                | zero =>
                  intro z76_12 z76_10 z76_8 z76_6  H locs ls hn76 hz76 hI76 hJ76 hP hD hS hl hf
                  refine lv_iload hx hb dX7_first_76 (lv_at hl 0 rfl) ?_
                  refine lv_iload_n hx hb dX7_first_78 rfl (lv_at hl 6 rfl) ?_
                  refine lv_icmp_ge (tgt := 159) hx hb dX7_first_79 (by decide) (fun c_10 => ?_) (fun c_10 => ?_)
                  · have t_10 := ti_le c_10
                    exact hk _ _ _ _ _ _ (by first | assumption | exact vin (by omega) (by omega) | omega) hP hD hS (lv_sub hl [1, 2, 3, 7, 8] rfl) hf
                  · have t_10 := ti_nle c_10
                    exfalso
                    omega
                | succ n ih =>
                  intro z76_12 z76_10 z76_8 z76_6  H locs ls hn76 hz76 hI76 hJ76 hP hD hS hl hf
                  refine lv_iload hx hb dX7_first_76 (lv_at hl 0 rfl) ?_
                  refine lv_iload_n hx hb dX7_first_78 rfl (lv_at hl 6 rfl) ?_
                  refine lv_icmp_ge (tgt := 159) hx hb dX7_first_79 (by decide) (fun c_6 => ?_) (fun c_6 => ?_)
                  · have hf := kIt hf c_6
                    have t_6 := ti_le c_6
                    exact hk _ _ _ _ _ _ (by first | assumption | exact vin (by omega) (by omega) | omega) hP hD hS (lv_sub hl [1, 2, 3, 7, 8] rfl) hf
                  · have hf := kIf hf c_6
                    have t_6 := ti_nle c_6
                    refine lv_ldc2 (v := (10 : Int64)) hx hb hown hw1 dX7_first_82 ?_
                    refine lv_lload hx hb dX7_first_85 (lv_at hl 3 rfl) ?_
                    refine lv_lmul hx hb dX7_first_87 ?_
                    refine lv_iload hx hb dX7_first_88 (lv_at hl 0 rfl) ?_
                    refine lv_iconst (v := (2 : Int32)) hx hb dX7_first_90 (by decide) ?_
                    refine lv_irem hx hb dX7_first_91 (by decide) ?_
                    refine kJn hf (fun j0 => ∀ (z104_s0 : Int64), ((jr z76_12 (2 : Int32) = 0 ∧ z104_s0 = Int32.toInt64 x1 * z76_10) ∨ (¬ jr z76_12 (2 : Int32) = 0 ∧ z104_s0 = 0)) → f_X7_first x1 x2 x3 x4 x5 st = j0 z104_s0 → ∀ (H : Heap) (locs : List Loc) (ls : Array Slot), va_P D vwCl (mW h ad ct st) H → va_D A (mW h ad ct st) → va_S A s.heap H locs → lv_has ls 14 [(12, .int z76_12), (10, .long z76_10), (8, .long z76_8), (1, .int x1), (2, .int x2), (3, .int x3), (4, .int x4), (5, .int x5)] → W p l e R s m args below meth c H locs 0 0 Q (F0 m 104 ls [.long z104_s0, .long ((10 : Int64) * z76_6)])) ?_ ?_
                    · intro j0 hj0 z104_s0 h104 hf H locs ls hP hD hS hl
                      subst hj0
                      refine lv_ladd hx hb dX7_first_104 ?_
                      refine lv_topl (fun y105 ey105 => ?_)
                      have hf := kLt hf ey105
                      refine lv_lstore (lv' := [(6, .long y105), (12, .int z76_12), (10, .long z76_10), (8, .long z76_8), (1, .int x1), (2, .int x2), (3, .int x3), (4, .int x4), (5, .int x5)]) hx hb dX7_first_105 hl (by decide) rfl (fun ls hl => ?_)
                      refine lv_ldc2 (v := (10 : Int64)) hx hb hown hw1 dX7_first_107 ?_
                      refine lv_lload hx hb dX7_first_110 (lv_at hl 3 rfl) ?_
                      refine lv_lmul hx hb dX7_first_112 ?_
                      refine lv_iload hx hb dX7_first_113 (lv_at hl 1 rfl) ?_
                      refine lv_iconst (v := (2 : Int32)) hx hb dX7_first_115 (by decide) ?_
                      refine lv_irem hx hb dX7_first_116 (by decide) ?_
                      refine kJn hf (fun j0 => ∀ (z129_s0 : Int64), ((jr z76_12 (2 : Int32) = 0 ∧ z129_s0 = 0) ∨ (¬ jr z76_12 (2 : Int32) = 0 ∧ z129_s0 = Int32.toInt64 x2 * z76_10)) → f_X7_first x1 x2 x3 x4 x5 st = j0 z129_s0 → ∀ (H : Heap) (locs : List Loc) (ls : Array Slot), va_P D vwCl (mW h ad ct st) H → va_D A (mW h ad ct st) → va_S A s.heap H locs → lv_has ls 14 [(6, .long y105), (12, .int z76_12), (10, .long z76_10), (1, .int x1), (2, .int x2), (3, .int x3), (4, .int x4), (5, .int x5)] → W p l e R s m args below meth c H locs 0 0 Q (F0 m 129 ls [.long z129_s0, .long ((10 : Int64) * z76_8)])) ?_ ?_
                      · intro j0 hj0 z129_s0 h129 hf H locs ls hP hD hS hl
                        subst hj0
                        refine lv_ladd hx hb dX7_first_129 ?_
                        refine lv_topl (fun y130 ey130 => ?_)
                        have hf := kLt hf ey130
                        refine lv_lstore (lv' := [(8, .long y130), (6, .long y105), (12, .int z76_12), (10, .long z76_10), (1, .int x1), (2, .int x2), (3, .int x3), (4, .int x4), (5, .int x5)]) hx hb dX7_first_130 hl (by decide) rfl (fun ls hl => ?_)
                        refine lv_lload hx hb dX7_first_132 (lv_at hl 3 rfl) ?_
                        refine lv_bipush (v := (10 : Int32)) hx hb dX7_first_134 (by decide) ?_
                        refine lv_iload hx hb dX7_first_136 (lv_at hl 2 rfl) ?_
                        refine lv_iconst (v := (2 : Int32)) hx hb dX7_first_138 (by decide) ?_
                        refine lv_irem hx hb dX7_first_139 (by decide) ?_
                        refine kJn hf (fun j0 => ∀ (z148_s0 : Int32), ((jr z76_12 (2 : Int32) = 0 ∧ z148_s0 = x1) ∨ (¬ jr z76_12 (2 : Int32) = 0 ∧ z148_s0 = x2)) → f_X7_first x1 x2 x3 x4 x5 st = j0 z148_s0 → ∀ (H : Heap) (locs : List Loc) (ls : Array Slot), va_P D vwCl (mW h ad ct st) H → va_D A (mW h ad ct st) → va_S A s.heap H locs → lv_has ls 14 [(8, .long y130), (6, .long y105), (12, .int z76_12), (1, .int x1), (2, .int x2), (3, .int x3), (4, .int x4), (5, .int x5)] → W p l e R s m args below meth c H locs 0 0 Q (F0 m 148 ls [.int z148_s0, .int (10 : Int32), .long z76_10])) ?_ ?_
                        · intro j0 hj0 z148_s0 h148 hf H locs ls hP hD hS hl
                          subst hj0
                          refine lv_isub hx hb dX7_first_148 ?_
                          refine lv_i2l (v := (Int32.toInt64 ((10 : Int32) - z148_s0))) hx hb dX7_first_149 rfl ?_
                          refine lv_lmul hx hb dX7_first_150 ?_
                          refine lv_topl (fun y151 ey151 => ?_)
                          have hf := kLt hf ey151
                          refine lv_lstore (lv' := [(10, .long y151), (8, .long y130), (6, .long y105), (12, .int z76_12), (1, .int x1), (2, .int x2), (3, .int x3), (4, .int x4), (5, .int x5)]) hx hb dX7_first_151 hl (by decide) rfl (fun ls hl => ?_)
                          obtain ⟨y153, ey153⟩ : ∃ y : Int32, y = z76_12 + (1 : Int32) := ⟨_, rfl⟩
                          have hf := kLt hf ey153
                          have a153 : Int32.toInt y153 = Int32.toInt z76_12 + 1 := by have := ti_rng z76_12; rw [ey153]; exact ti_add (by rw [kc1]) (by omega) (by omega)
                          refine lv_iinc (v := y153) (lv' := [(12, .int y153), (10, .long y151), (8, .long y130), (6, .long y105), (1, .int x1), (2, .int x2), (3, .int x3), (4, .int x4), (5, .int x5)]) hx hb dX7_first_153 hl (k := 3) rfl (by rw [ey153]; rfl) (by decide) rfl (fun ls hl => ?_)
                          refine lv_goto (tgt := 76) hx hb dX7_first_156 (by decide) ?_
                          exact ih y153 y151 y130 y105 _ _ _ (by first | assumption | exact vin (by omega) (by omega) | omega) (by first | assumption | exact vin (by omega) (by omega) | omega) (by rw [ey153, ey105, ey130, ey151]; exact fI_step hI76 (by omega) (by omega) (by omega) h104 h129 h148) (fJ_of (e := y153) (by rw [ey153, ey105, ey130, ey151]; exact fI_step hI76 (by omega) (by omega) (by omega) h104 h129 h148)) hP hD hS (lv_sub hl [0, 1, 2, 3, 4, 5, 6, 7, 8] rfl) hf
                        · intro j148 hJ148 hf
                          refine lv_if_ne (tgt := 147) hx hb dX7_first_140 (by decide) (fun c_9 => ?_) (fun c_9 => ?_)
                          · have hf := kIf hf c_9
                            have t_9 := ti_ne c_9
                            refine lv_iload_n hx hb dX7_first_147 rfl (lv_at hl 5 rfl) ?_
                            exact hJ148 _ (by first | assumption | exact Or.inl ⟨by assumption, rfl⟩ | exact Or.inr ⟨by assumption, rfl⟩ | exact Or.inl rfl | exact Or.inr rfl | omega) hf _ _ _ hP hD hS (lv_sub hl [0, 1, 2, 4, 5, 6, 7, 8] rfl)
                          · have hf := kIt hf c_9
                            have t_9 := ti_eq c_9
                            refine lv_iload_n hx hb dX7_first_143 rfl (lv_at hl 4 rfl) ?_
                            refine lv_goto (tgt := 148) hx hb dX7_first_144 (by decide) ?_
                            exact hJ148 _ (by first | assumption | exact Or.inl ⟨by assumption, rfl⟩ | exact Or.inr ⟨by assumption, rfl⟩ | exact Or.inl rfl | exact Or.inr rfl | omega) hf _ _ _ hP hD hS (lv_sub hl [0, 1, 2, 4, 5, 6, 7, 8] rfl)
                      · intro j129 hJ129 hf
                        refine lv_if_ne (tgt := 124) hx hb dX7_first_117 (by decide) (fun c_8 => ?_) (fun c_8 => ?_)
                        · have hf := kIf hf c_8
                          have t_8 := ti_ne c_8
                          refine lv_iload_n hx hb dX7_first_124 rfl (lv_at hl 5 rfl) ?_
                          refine lv_i2l (v := (Int32.toInt64 x2)) hx hb dX7_first_125 rfl ?_
                          refine lv_lload hx hb dX7_first_126 (lv_at hl 2 rfl) ?_
                          refine lv_lmul hx hb dX7_first_128 ?_
                          exact hJ129 _ (by first | assumption | exact Or.inl ⟨by assumption, rfl⟩ | exact Or.inr ⟨by assumption, rfl⟩ | exact Or.inl rfl | exact Or.inr rfl | omega) hf _ _ _ hP hD hS (lv_sub hl [0, 1, 2, 4, 5, 6, 7, 8] rfl)
                        · have hf := kIt hf c_8
                          have t_8 := ti_eq c_8
                          refine lv_lconst (v := (0 : Int64)) hx hb dX7_first_120 (by decide) ?_
                          refine lv_goto (tgt := 129) hx hb dX7_first_121 (by decide) ?_
                          exact hJ129 _ (by first | assumption | exact Or.inl ⟨by assumption, rfl⟩ | exact Or.inr ⟨by assumption, rfl⟩ | exact Or.inl rfl | exact Or.inr rfl | omega) hf _ _ _ hP hD hS (lv_sub hl [0, 1, 2, 4, 5, 6, 7, 8] rfl)
                    · intro j104 hJ104 hf
                      refine lv_if_ne (tgt := 103) hx hb dX7_first_92 (by decide) (fun c_7 => ?_) (fun c_7 => ?_)
                      · have hf := kIf hf c_7
                        have t_7 := ti_ne c_7
                        refine lv_lconst (v := (0 : Int64)) hx hb dX7_first_103 (by decide) ?_
                        exact hJ104 _ (by first | assumption | exact Or.inl ⟨by assumption, rfl⟩ | exact Or.inr ⟨by assumption, rfl⟩ | exact Or.inl rfl | exact Or.inr rfl | omega) hf _ _ _ hP hD hS (lv_sub hl [0, 1, 2, 4, 5, 6, 7, 8] rfl)
                      · have hf := kIt hf c_7
                        have t_7 := ti_eq c_7
                        refine lv_iload_n hx hb dX7_first_95 rfl (lv_at hl 4 rfl) ?_
                        refine lv_i2l (v := (Int32.toInt64 x1)) hx hb dX7_first_96 rfl ?_
                        refine lv_lload hx hb dX7_first_97 (lv_at hl 1 rfl) ?_
                        refine lv_lmul hx hb dX7_first_99 ?_
                        refine lv_goto (tgt := 104) hx hb dX7_first_100 (by decide) ?_
                        exact hJ104 _ (by first | assumption | exact Or.inl ⟨by assumption, rfl⟩ | exact Or.inr ⟨by assumption, rfl⟩ | exact Or.inl rfl | exact Or.inr rfl | omega) hf _ _ _ hP hD hS (lv_sub hl [0, 1, 2, 4, 5, 6, 7, 8] rfl)
              refine lp76 _ (fun w76_10 w76_8 w76_6  H locs ls hJ76 hP hD hS hl hf => ?_) (16) (0 : Int32) (1 : Int64) (0 : Int64) (0 : Int64)  _ _ _ (by first | assumption | exact vin (by omega) (by omega) | omega) (by first | assumption | exact vin (by omega) (by omega) | omega) fI_0 (fJ_of fI_0) hP hD hS (lv_sub hl [0, 1, 2, 3, 5, 6, 7, 8, 9] rfl) hf
              refine lv_iload hx hb dX7_first_159 (lv_at hl 3 rfl) ?_
              refine kJn hf (fun j0 => ∀ (z182_s0 : Int64), (0 ≤ Int64.toInt z182_s0) → f_X7_first x1 x2 x3 x4 x5 st = j0 z182_s0 → ∀ (H : Heap) (locs : List Loc) (ls : Array Slot), va_P D vwCl (mW h ad ct st) H → va_D A (mW h ad ct st) → va_S A s.heap H locs → lv_has ls 14 [(10, .long w76_10), (8, .long w76_8), (6, .long w76_6), (5, .int x5)] → W p l e R s m args below meth c H locs 0 0 Q (F0 m 182 ls [.long z182_s0])) ?_ ?_
              · intro j0 hj0 z182_s0 h182 hf H locs ls hP hD hS hl
                subst hj0
                refine lv_lstore (lv' := [(12, .long z182_s0), (10, .long w76_10), (8, .long w76_8), (6, .long w76_6), (5, .int x5)]) hx hb dX7_first_182 hl (by decide) rfl (fun ls hl => ?_)
                refine lv_lload hx hb dX7_first_184 (lv_at hl 0 rfl) ?_
                refine lv_lload hx hb dX7_first_186 (lv_at hl 3 rfl) ?_
                refine lv_lload hx hb dX7_first_188 (lv_at hl 2 rfl) ?_
                refine lv_ladd hx hb dX7_first_190 ?_
                refine lv_lload hx hb dX7_first_191 (lv_at hl 1 rfl) ?_
                refine lv_ladd hx hb dX7_first_193 ?_
                refine lv_iload hx hb dX7_first_194 (lv_at hl 4 rfl) ?_
                have hM : kC l D ct z yX7_lowest wsX7_lowest 0 0 [.long z182_s0, .long ((w76_6 + w76_8) + w76_10), .int x5] ([]) (some (.long (f_X7_lowest z182_s0 ((w76_6 + w76_8) + w76_10) x5))) ([]) := k_X7_lowest l D ct z z182_s0 ((w76_6 + w76_8) + w76_10) x5 (⟨h182, hJ76.2.2.2⟩)
                refine kS0 (As := [.long z182_s0, .long ((w76_6 + w76_8) + w76_10), .int x5]) (rest := []) ⟨hx, hb, hml, hown, hts⟩ hM gX7_first_X7_lowest kyX7_lowest (by rw [hRf, hRl]; exact ⟨Nat.le_of_ble_eq_true rfl, Nat.le_of_ble_eq_true rfl⟩) hK hP hD hS hA rfl hl.1 rfl (st1 := [.long (f_X7_lowest z182_s0 ((w76_6 + w76_8) + w76_10) x5)]) rfl rfl ⟨Nat.zero_le _, Nat.zero_le _⟩ dX7_first_196 (fun H locs hP hD hS => ?_)
                exact kRetL hx hb hr hlk hP hD hS hf.symm rfl hQ dX7_first_199
              · intro j182 hJ182 hf
                refine lv_if_ne (tgt := 169) hx hb dX7_first_161 (by decide) (fun c_11 => ?_) (fun c_11 => ?_)
                · have hf := kIf hf c_11
                  have t_11 := ti_ne c_11
                  refine lv_iload hx hb dX7_first_169 (lv_at hl 3 rfl) ?_
                  refine lv_iconst (v := (1 : Int32)) hx hb dX7_first_171 (by decide) ?_
                  refine lv_icmp_ne (tgt := 180) hx hb dX7_first_172 (by decide) (fun c_12 => ?_) (fun c_12 => ?_)
                  · have hf := kIf hf c_12
                    have t_12 := ti_ne c_12
                    refine lv_lload hx hb dX7_first_180 (lv_at hl 0 rfl) ?_
                    exact hJ182 _ (by first | exact hJ76.1 | exact hJ76.2.1 | exact hJ76.2.2.1) hf _ _ _ hP hD hS (lv_sub hl [0, 1, 2, 4] rfl)
                  · have hf := kIt hf c_12
                    have t_12 := ti_eq c_12
                    refine lv_lload hx hb dX7_first_175 (lv_at hl 1 rfl) ?_
                    refine lv_goto (tgt := 182) hx hb dX7_first_177 (by decide) ?_
                    exact hJ182 _ (by first | exact hJ76.1 | exact hJ76.2.1 | exact hJ76.2.2.1) hf _ _ _ hP hD hS (lv_sub hl [0, 1, 2, 4] rfl)
                · have hf := kIt hf c_11
                  have t_11 := ti_eq c_11
                  refine lv_lload hx hb dX7_first_164 (lv_at hl 2 rfl) ?_
                  refine lv_goto (tgt := 182) hx hb dX7_first_166 (by decide) ?_
                  exact hJ182 _ (by first | exact hJ76.1 | exact hJ76.2.1 | exact hJ76.2.2.1) hf _ _ _ hP hD hS (lv_sub hl [0, 1, 2, 4] rfl)
            · have hf := kIt hf c_5
              have t_5 := ti_eq c_5
              exact hJ60 ()  hf _ _ _ hP hD hS (lv_sub hl [] rfl)
theorem kyX7_actBy : kY yX7_actBy cX7_actBy 1 (some .int) wsX7_actBy wsX7_actBy.tail 1 := ⟨rfl, by decide, by decide, by decide +kernel⟩
set_option maxHeartbeats 4000000 in
set_option maxRecDepth 100000 in
theorem k_X7_actBy (l : Launch) (D : va_G) (ct : ClassId × ClassId × ClassId) (z : Nat × Nat)  (x0 : Int32)  : kC l D ct z yX7_actBy wsX7_actBy 0 0 [.int x0] ([]) (some (.int (f_X7_actBy x0))) ([]) := by
  refine kHead (cc := cX7_actBy) (maxL := 1) (ret := (some .int)) [(0, .int x0)] (by decide) rfl (Nat.le_of_ble_eq_true rfl) rfl ?_
  intro p e s m args below meth c A ls R Q hRf hRl hQ hx hb hr hlk hml hown hts hA hS hK hP hD hl
  have kc0 : (0 : Int32).toInt = 0 := by decide
  have kc2 : (2 : Int32).toInt = 2 := by decide
  have kc3 : (3 : Int32).toInt = 3 := by decide
  have kc4 : (4 : Int32).toInt = 4 := by decide
  have kc5 : (5 : Int32).toInt = 5 := by decide
  have hf : f_X7_actBy x0 = f_X7_actBy x0 := rfl
  refine lv_iload_n hx hb dX7_actBy_0 rfl (lv_at hl 0 rfl) ?_
  have kv_1 : (0 : Int32).toInt = 0 := by decide
  refine (Classical.em (x0 = (0 : Int32))).elim (fun c_1 => ?_) (fun c_1 => ?_)
  · have hf := kIt hf c_1
    have t_1 := ti_eq c_1
    refine lv_tableIn (off := 47) (tgt := 48) hx hb dX7_actBy_1 (by omega) (by omega) (by rw [c_1]; decide) (by decide) ?_
    refine lv_iconst (v := (0 : Int32)) hx hb dX7_actBy_48 (by decide) ?_
    exact kRetI hx hb hr hlk hP hD hS hf.symm rfl hQ dX7_actBy_49
  · have hf := kIf hf c_1
    have t_1 := ti_ne c_1
    have kv_2 : (1 : Int32).toInt = 1 := by decide
    refine (Classical.em (x0 = (1 : Int32))).elim (fun c_2 => ?_) (fun c_2 => ?_)
    · have hf := kIt hf c_2
      have t_2 := ti_eq c_2
      refine lv_tableIn (off := 55) (tgt := 56) hx hb dX7_actBy_1 (by omega) (by omega) (by rw [c_2]; decide) (by decide) ?_
      refine lv_iconst (v := (2 : Int32)) hx hb dX7_actBy_56 (by decide) ?_
      exact kRetI hx hb hr hlk hP hD hS hf.symm rfl hQ dX7_actBy_57
    · have hf := kIf hf c_2
      have t_2 := ti_ne c_2
      have kv_3 : (2 : Int32).toInt = 2 := by decide
      refine (Classical.em (x0 = (2 : Int32))).elim (fun c_3 => ?_) (fun c_3 => ?_)
      · have hf := kIt hf c_3
        have t_3 := ti_eq c_3
        refine lv_tableIn (off := 55) (tgt := 56) hx hb dX7_actBy_1 (by omega) (by omega) (by rw [c_3]; decide) (by decide) ?_
        refine lv_iconst (v := (2 : Int32)) hx hb dX7_actBy_56 (by decide) ?_
        exact kRetI hx hb hr hlk hP hD hS hf.symm rfl hQ dX7_actBy_57
      · have hf := kIf hf c_3
        have t_3 := ti_ne c_3
        have kv_4 : (3 : Int32).toInt = 3 := by decide
        refine (Classical.em (x0 = (3 : Int32))).elim (fun c_4 => ?_) (fun c_4 => ?_)
        · have hf := kIt hf c_4
          have t_4 := ti_eq c_4
          refine lv_tableIn (off := 55) (tgt := 56) hx hb dX7_actBy_1 (by omega) (by omega) (by rw [c_4]; decide) (by decide) ?_
          refine lv_iconst (v := (2 : Int32)) hx hb dX7_actBy_56 (by decide) ?_
          exact kRetI hx hb hr hlk hP hD hS hf.symm rfl hQ dX7_actBy_57
        · have hf := kIf hf c_4
          have t_4 := ti_ne c_4
          have kv_5 : (4 : Int32).toInt = 4 := by decide
          refine (Classical.em (x0 = (4 : Int32))).elim (fun c_5 => ?_) (fun c_5 => ?_)
          · have hf := kIt hf c_5
            have t_5 := ti_eq c_5
            refine lv_tableIn (off := 55) (tgt := 56) hx hb dX7_actBy_1 (by omega) (by omega) (by rw [c_5]; decide) (by decide) ?_
            refine lv_iconst (v := (2 : Int32)) hx hb dX7_actBy_56 (by decide) ?_
            exact kRetI hx hb hr hlk hP hD hS hf.symm rfl hQ dX7_actBy_57
          · have hf := kIf hf c_5
            have t_5 := ti_ne c_5
            have kv_6 : (5 : Int32).toInt = 5 := by decide
            refine (Classical.em (x0 = (5 : Int32))).elim (fun c_6 => ?_) (fun c_6 => ?_)
            · have hf := kIt hf c_6
              have t_6 := ti_eq c_6
              refine lv_tableIn (off := 49) (tgt := 50) hx hb dX7_actBy_1 (by omega) (by omega) (by rw [c_6]; decide) (by decide) ?_
              refine lv_iconst (v := (3 : Int32)) hx hb dX7_actBy_50 (by decide) ?_
              exact kRetI hx hb hr hlk hP hD hS hf.symm rfl hQ dX7_actBy_51
            · have hf := kIf hf c_6
              have t_6 := ti_ne c_6
              have kv_7 : (6 : Int32).toInt = 6 := by decide
              refine (Classical.em (x0 = (6 : Int32))).elim (fun c_7 => ?_) (fun c_7 => ?_)
              · have hf := kIt hf c_7
                have t_7 := ti_eq c_7
                refine lv_tableIn (off := 51) (tgt := 52) hx hb dX7_actBy_1 (by omega) (by omega) (by rw [c_7]; decide) (by decide) ?_
                refine lv_iconst (v := (4 : Int32)) hx hb dX7_actBy_52 (by decide) ?_
                exact kRetI hx hb hr hlk hP hD hS hf.symm rfl hQ dX7_actBy_53
              · have hf := kIf hf c_7
                have t_7 := ti_ne c_7
                have kv_8 : (7 : Int32).toInt = 7 := by decide
                refine (Classical.em (x0 = (7 : Int32))).elim (fun c_8 => ?_) (fun c_8 => ?_)
                · have hf := kIt hf c_8
                  have t_8 := ti_eq c_8
                  refine lv_tableIn (off := 53) (tgt := 54) hx hb dX7_actBy_1 (by omega) (by omega) (by rw [c_8]; decide) (by decide) ?_
                  refine lv_iconst (v := (5 : Int32)) hx hb dX7_actBy_54 (by decide) ?_
                  exact kRetI hx hb hr hlk hP hD hS hf.symm rfl hQ dX7_actBy_55
                · have hf := kIf hf c_8
                  have t_8 := ti_ne c_8
                  refine lv_tableOut (tgt := 56) hx hb dX7_actBy_1 (by omega) (by decide) ?_
                  refine lv_iconst (v := (2 : Int32)) hx hb dX7_actBy_56 (by decide) ?_
                  exact kRetI hx hb hr hlk hP hD hS hf.symm rfl hQ dX7_actBy_57
theorem kyX7_year : kY yX7_year cX7_year 8 (some .int) wsX7_year wsX7_year.tail 3 := ⟨rfl, by decide, by decide, by decide +kernel⟩
set_option maxHeartbeats 4000000 in
set_option maxRecDepth 100000 in
theorem k_X7_year (l : Launch) (D : va_G) (ct : ClassId × ClassId × ClassId) (z : Nat × Nat) (h : Nat) (ad : Nat → Nat) (x1 : Int32) (x2 : Int32) (x3 : Int32) (st : Nat → Nat → Int32) (hwho : Int32.toInt (st 0 4) < 6) : kC l D ct z yX7_year wsX7_year 6 129 [.ref h, .int x1, .int x2, .int x3] (mW h ad ct st) (some (.int ((f_X7_year x1 x2 x3 st).1))) (mW h ad ct ((f_X7_year x1 x2 x3 st).2)) := by
  refine kHead (cc := cX7_year) (maxL := 8) (ret := (some .int)) [(0, .ref h), (1, .int x1), (2, .int x2), (3, .int x3)] (by decide) rfl (Nat.le_of_ble_eq_true rfl) rfl ?_
  intro p e s m args below meth c A ls R Q hRf hRl hQ hx hb hr hlk hml hown hts hA hS hK hP hD hl
  have inX7 : ∀ w ∈ wsX70, w ∈ wsX7_year := fun w h => (List.mem_cons_of_mem _ (List.mem_append_right _ h))
  have hw1 := hts (Cond.constantLong RX7 287 (9999)) (List.mem_of_getElem? (i := 1) (by decide +kernel))
  have hw2 := hts (Cond.constantLong RX7 289 (99)) (List.mem_of_getElem? (i := 2) (by decide +kernel))
  have hw3 := hts (Cond.constantLong RX7 208 (2)) (List.mem_of_getElem? (i := 3) (by decide +kernel))
  have hw4 := hts (Cond.fieldLink RX7 164 "MastPulpitsModel" "silences" "I") (List.mem_of_getElem? (i := 4) (by decide +kernel))
  have hw5 := hts (Cond.constantLong RX7 291 (75)) (List.mem_of_getElem? (i := 5) (by decide +kernel))
  have hw6 := hts (Cond.constantLong RX7 293 (74)) (List.mem_of_getElem? (i := 6) (by decide +kernel))
  have hw7 := hts (Cond.constantLong RX7 295 (65537)) (List.mem_of_getElem? (i := 7) (by decide +kernel))
  have hw8 := hts (Cond.fieldLink RX7 59 "MastPulpitsModel" "place" "I") (List.mem_of_getElem? (i := 8) (by decide +kernel))
  have hw9 := hts (Cond.fieldLink RX7 63 "MastPulpitsModel" "hull" "I") (List.mem_of_getElem? (i := 9) (by decide +kernel))
  have kcm2 : (-2 : Int32).toInt = -2 := by decide
  have kc0 : (0 : Int32).toInt = 0 := by decide
  have kc1 : (1 : Int32).toInt = 1 := by decide
  have kc6 : (6 : Int32).toInt = 6 := by decide
  have kc8 : (8 : Int32).toInt = 8 := by decide
  have kl0 : (0 : Int64).toInt = 0 := by decide
  have kl1 : (1 : Int64).toInt = 1 := by decide
  have kl2 : (2 : Int64).toInt = 2 := by decide
  have kl74 : (74 : Int64).toInt = 74 := by decide
  have kl75 : (75 : Int64).toInt = 75 := by decide
  have kl99 : (99 : Int64).toInt = 99 := by decide
  have kl9999 : (9999 : Int64).toInt = 9999 := by decide
  have kl65537 : (65537 : Int64).toInt = 65537 := by decide
  have hf : f_X7_year x1 x2 x3 st = f_X7_year x1 x2 x3 st := rfl
  refine lv_iload_n hx hb dX7_year_0 rfl (lv_at hl 1 rfl) ?_
  refine lv_i2l (v := (Int32.toInt64 x1)) hx hb dX7_year_1 rfl ?_
  refine lv_lconst (v := (0 : Int64)) hx hb dX7_year_2 (by decide) ?_
  refine lv_ldc2 (v := (9999 : Int64)) hx hb hown hw1 dX7_year_3 ?_
  have hM : kC l D ct z yX7_in wsX7_in 0 0 [.long (Int32.toInt64 x1), .long (0 : Int64), .long (9999 : Int64)] ([]) (some (.int (f_X7_in (Int32.toInt64 x1) (0 : Int64) (9999 : Int64)))) ([]) := k_X7_in l D ct z (Int32.toInt64 x1) (0 : Int64) (9999 : Int64)
  refine kS0 (As := [.long (Int32.toInt64 x1), .long (0 : Int64), .long (9999 : Int64)]) (rest := []) ⟨hx, hb, hml, hown, hts⟩ hM gX7_year_X7_in kyX7_in (by rw [hRf, hRl]; exact ⟨Nat.le_of_ble_eq_true rfl, Nat.le_of_ble_eq_true rfl⟩) hK hP hD hS hA rfl hl.1 rfl (st1 := [.int (f_X7_in (Int32.toInt64 x1) (0 : Int64) (9999 : Int64))]) rfl rfl ⟨Nat.zero_le _, Nat.zero_le _⟩ dX7_year_6 (fun H locs hP hD hS => ?_)
  refine lv_if_eq (tgt := 36) hx hb dX7_year_9 (by decide) (fun c_1 => ?_) (fun c_1 => ?_)
  · have hf := kIt hf c_1
    have t_1 := ti_eq c_1
    refine lv_bipush (v := (-2 : Int32)) hx hb dX7_year_36 (by decide) ?_
    exact kRetI hx hb hr hlk hP hD hS (kfst hf) ((congrArg (fun q => mW h ad ct q.2) hf).symm) hQ dX7_year_38
  · have hf := kIf hf c_1
    have t_1 := ti_ne c_1; have w_1 := in_nz c_1
    refine lv_iload_n hx hb dX7_year_12 rfl (lv_at hl 2 rfl) ?_
    refine lv_i2l (v := (Int32.toInt64 x2)) hx hb dX7_year_13 rfl ?_
    refine lv_lconst (v := (1 : Int64)) hx hb dX7_year_14 (by decide) ?_
    refine lv_ldc2 (v := (99 : Int64)) hx hb hown hw2 dX7_year_15 ?_
    have hM : kC l D ct z yX7_in wsX7_in 0 0 [.long (Int32.toInt64 x2), .long (1 : Int64), .long (99 : Int64)] ([]) (some (.int (f_X7_in (Int32.toInt64 x2) (1 : Int64) (99 : Int64)))) ([]) := k_X7_in l D ct z (Int32.toInt64 x2) (1 : Int64) (99 : Int64)
    refine kS0 (As := [.long (Int32.toInt64 x2), .long (1 : Int64), .long (99 : Int64)]) (rest := []) ⟨hx, hb, hml, hown, hts⟩ hM gX7_year_X7_in kyX7_in (by rw [hRf, hRl]; exact ⟨Nat.le_of_ble_eq_true rfl, Nat.le_of_ble_eq_true rfl⟩) hK hP hD hS hA rfl hl.1 rfl (st1 := [.int (f_X7_in (Int32.toInt64 x2) (1 : Int64) (99 : Int64))]) rfl rfl ⟨Nat.zero_le _, Nat.zero_le _⟩ dX7_year_18 (fun H locs hP hD hS => ?_)
    refine lv_if_eq (tgt := 36) hx hb dX7_year_21 (by decide) (fun c_2 => ?_) (fun c_2 => ?_)
    · have hf := kIt hf c_2
      have t_2 := ti_eq c_2
      refine lv_bipush (v := (-2 : Int32)) hx hb dX7_year_36 (by decide) ?_
      exact kRetI hx hb hr hlk hP hD hS (kfst hf) ((congrArg (fun q => mW h ad ct q.2) hf).symm) hQ dX7_year_38
    · have hf := kIf hf c_2
      have t_2 := ti_ne c_2; have w_2 := in_nz c_2
      refine lv_iload_n hx hb dX7_year_24 rfl (lv_at hl 3 rfl) ?_
      refine lv_i2l (v := (Int32.toInt64 x3)) hx hb dX7_year_25 rfl ?_
      refine lv_lconst (v := (0 : Int64)) hx hb dX7_year_26 (by decide) ?_
      refine lv_ldc2 (v := (2 : Int64)) hx hb hown hw3 dX7_year_27 ?_
      have hM : kC l D ct z yX7_in wsX7_in 0 0 [.long (Int32.toInt64 x3), .long (0 : Int64), .long (2 : Int64)] ([]) (some (.int (f_X7_in (Int32.toInt64 x3) (0 : Int64) (2 : Int64)))) ([]) := k_X7_in l D ct z (Int32.toInt64 x3) (0 : Int64) (2 : Int64)
      refine kS0 (As := [.long (Int32.toInt64 x3), .long (0 : Int64), .long (2 : Int64)]) (rest := []) ⟨hx, hb, hml, hown, hts⟩ hM gX7_year_X7_in kyX7_in (by rw [hRf, hRl]; exact ⟨Nat.le_of_ble_eq_true rfl, Nat.le_of_ble_eq_true rfl⟩) hK hP hD hS hA rfl hl.1 rfl (st1 := [.int (f_X7_in (Int32.toInt64 x3) (0 : Int64) (2 : Int64))]) rfl rfl ⟨Nat.zero_le _, Nat.zero_le _⟩ dX7_year_30 (fun H locs hP hD hS => ?_)
      refine lv_if_ne (tgt := 39) hx hb dX7_year_33 (by decide) (fun c_3 => ?_) (fun c_3 => ?_)
      · have hf := kIf hf c_3
        have t_3 := ti_ne c_3; have w_3 := in_nz c_3
        refine lv_aload_n hx hb dX7_year_39 rfl (lv_at hl 0 rfl) ?_
        obtain ⟨q40, eq40⟩ : ∃ y, y = f_X7_keepNow st := ⟨_, rfl⟩
        have hf := kLt hf eq40
        have g40 := keep_fr st
        rw [← eq40] at g40
        have hM : kC l D ct z yX7_keepNow wsX7_keepNow 0 0 [.ref h] (mW h ad ct st) (none) (mW h ad ct q40) := by rw [eq40]; exact k_X7_keepNow l D ct z h ad st
        refine kV1 (As := []) (rest := []) ⟨hx, hb, hml, hown, hts⟩ hM gX7_year_X7_keepNow kyX7_keepNow (by rw [hRf, hRl]; exact ⟨Nat.le_of_ble_eq_true rfl, Nat.le_of_ble_eq_true rfl⟩) hK hP hD hS hA 0 (mO h ad ct st) rfl rfl rfl hl.1 rfl (st1 := []) rfl rfl ⟨Nat.zero_le _, Nat.zero_le _⟩ dX7_year_40 (fun H locs hP hD hS => ?_)
        refine lv_aload_n hx hb dX7_year_43 rfl (lv_at hl 0 rfl) ?_
        refine lv_iconst (v := (0 : Int32)) hx hb dX7_year_44 (by decide) ?_
        refine kPut (ci := 6) (C := RX7) (T := TX7) (N := 34) (ty := .int) (v := .int (0 : Int32)) (W1 := mW h ad ct (u2 q40 0 19 (0 : Int32))) hx hb hts inX7 tyX7 tyX7_ok nmX7 hown hK hP hD hS 0 (mO h ad ct q40) rfl 19 (by decide) hw4 (fun _ h => h) rfl (by decide +kernel) rfl rfl (mLn 19 ad q40 (by decide)) (mS_19 h ad ct q40 (0 : Int32)) dX7_year_45 (fun H locs hP hD hS => ?_)
        refine lv_iload_n hx hb dX7_year_48 rfl (lv_at hl 1 rfl) ?_
        refine lv_istore (lv' := [(4, .int x1), (0, .ref h), (1, .int x1), (2, .int x2), (3, .int x3)]) hx hb dX7_year_49 hl (by decide) rfl (fun ls hl => ?_)
        refine lv_iconst (v := (0 : Int32)) hx hb dX7_year_51 (by decide) ?_
        refine lv_istore (lv' := [(5, .int (0 : Int32)), (4, .int x1), (0, .ref h), (1, .int x1), (2, .int x2), (3, .int x3)]) hx hb dX7_year_52 hl (by decide) rfl (fun ls hl => ?_)
        have lp54 : ∀ (K : (Nat → Nat → Int32) → (Int32 × (Nat → Nat → Int32))), (∀ (z54_st : Nat → Nat → Int32), ∀ (H : Heap) (locs : List Loc) (ls : Array Slot), (Int32.toInt (z54_st 0 4) < 6) → va_P D vwCl (mW h ad ct z54_st) H → va_D A (mW h ad ct z54_st) → va_S A s.heap H locs → lv_has ls 8 [(0, .ref h), (3, .int x3)] → f_X7_year x1 x2 x3 st = K z54_st → W p l e R s m args below meth c H locs 0 0 Q (F0 m 133 ls [])) → ∀ (n : Nat) (z54_5 : Int32) (z54_4 : Int32) (z54_st : Nat → Nat → Int32), ∀ (H : Heap) (locs : List Loc) (ls : Array Slot), (Int32.toInt x2 ≤ Int32.toInt z54_5 + (n : Int)) → (Int32.toInt (z54_st 0 4) < 6) → (0 ≤ Int32.toInt z54_4 ∧ Int32.toInt z54_4 < 65537) → va_P D vwCl (mW h ad ct z54_st) H → va_D A (mW h ad ct z54_st) → va_S A s.heap H locs → lv_has ls 8 [(5, .int z54_5), (4, .int z54_4), (0, .ref h), (2, .int x2), (3, .int x3)] → f_X7_year x1 x2 x3 st = f_X7_year_L54 x2 K n z54_5 z54_4 z54_st → W p l e R s m args below meth c H locs 0 0 Q (F0 m 54 ls []) := by
          intro K hk n
          induction n with
          | zero =>
            intro z54_5 z54_4 z54_st  H locs ls hn54 hw54 hx54 hP hD hS hl hf
            refine lv_iload hx hb dX7_year_54 (lv_at hl 0 rfl) ?_
            refine lv_iload_n hx hb dX7_year_56 rfl (lv_at hl 3 rfl) ?_
            refine lv_icmp_ge (tgt := 133) hx hb dX7_year_57 (by decide) (fun c_7 => ?_) (fun c_7 => ?_)
            · have t_7 := ti_le c_7
              exact hk _ _ _ _ (by first | assumption | exact vin (by omega) (by omega) | omega) hP hD hS (lv_sub hl [2, 4] rfl) hf
            · have t_7 := ti_nle c_7
              exfalso
              omega
          | succ n ih =>
            intro z54_5 z54_4 z54_st  H locs ls hn54 hw54 hx54 hP hD hS hl hf
            refine lv_iload hx hb dX7_year_54 (lv_at hl 0 rfl) ?_
            refine lv_iload_n hx hb dX7_year_56 rfl (lv_at hl 3 rfl) ?_
            refine lv_icmp_ge (tgt := 133) hx hb dX7_year_57 (by decide) (fun c_4 => ?_) (fun c_4 => ?_)
            · have hf := kIt hf c_4
              have t_4 := ti_le c_4
              exact hk _ _ _ _ (by first | assumption | exact vin (by omega) (by omega) | omega) hP hD hS (lv_sub hl [2, 4] rfl) hf
            · have hf := kIf hf c_4
              have t_4 := ti_nle c_4
              refine lv_ldc2 (v := (75 : Int64)) hx hb hown hw5 dX7_year_60 ?_
              refine lv_iload hx hb dX7_year_63 (lv_at hl 1 rfl) ?_
              refine lv_i2l (v := (Int32.toInt64 z54_4)) hx hb dX7_year_65 rfl ?_
              refine lv_lmul hx hb dX7_year_66 ?_
              refine lv_ldc2 (v := (74 : Int64)) hx hb hown hw6 dX7_year_67 ?_
              refine lv_ladd hx hb dX7_year_70 ?_
              refine lv_ldc2 (v := (65537 : Int64)) hx hb hown hw7 dX7_year_71 ?_
              refine lv_lrem hx hb dX7_year_74 (by decide) ?_
              refine lv_l2i (v := (Int64.toInt32 (jrL (((75 : Int64) * (Int32.toInt64 z54_4)) + (74 : Int64)) (65537 : Int64)))) hx hb dX7_year_75 rfl ?_
              refine lv_topi (fun y76 ey76 => ?_)
              have hf := kLt hf ey76
              have g76 := lcg_rng hx54
              rw [← ey76] at g76
              refine lv_istore (lv' := [(4, .int y76), (5, .int z54_5), (0, .ref h), (2, .int x2), (3, .int x3)]) hx hb dX7_year_76 hl (by decide) rfl (fun ls hl => ?_)
              refine lv_iload hx hb dX7_year_78 (lv_at hl 0 rfl) ?_
              refine lv_bipush (v := (8 : Int32)) hx hb dX7_year_80 (by decide) ?_
              refine lv_irem hx hb dX7_year_82 (by decide) ?_
              have hM : kC l D ct z yX7_actBy wsX7_actBy 0 0 [.int (jr y76 (8 : Int32))] ([]) (some (.int (f_X7_actBy (jr y76 (8 : Int32))))) ([]) := k_X7_actBy l D ct z (jr y76 (8 : Int32))
              refine kS0 (As := [.int (jr y76 (8 : Int32))]) (rest := []) ⟨hx, hb, hml, hown, hts⟩ hM gX7_year_X7_actBy kyX7_actBy (by rw [hRf, hRl]; exact ⟨Nat.le_of_ble_eq_true rfl, Nat.le_of_ble_eq_true rfl⟩) hK hP hD hS hA rfl hl.1 rfl (st1 := [.int (f_X7_actBy (jr y76 (8 : Int32)))]) rfl rfl ⟨Nat.zero_le _, Nat.zero_le _⟩ dX7_year_83 (fun H locs hP hD hS => ?_)
              refine lv_topi (fun y86 ey86 => ?_)
              have hf := kLt hf ey86
              refine lv_istore (lv' := [(6, .int y86), (4, .int y76), (5, .int z54_5), (0, .ref h), (2, .int x2), (3, .int x3)]) hx hb dX7_year_86 hl (by decide) rfl (fun ls hl => ?_)
              refine lv_iload hx hb dX7_year_88 (lv_at hl 1 rfl) ?_
              refine lv_bipush (v := (8 : Int32)) hx hb dX7_year_90 (by decide) ?_
              refine lv_idiv hx hb dX7_year_92 (by decide) ?_
              refine lv_iload hx hb dX7_year_93 (lv_at hl 0 rfl) ?_
              refine kJn hf (fun j0 => ∀ (z105_s0 : Int32), ((y86 = 0 ∧ z105_s0 = 6) ∨ (¬ y86 = 0 ∧ z105_s0 = 8)) → f_X7_year x1 x2 x3 st = j0 z105_s0 → ∀ (H : Heap) (locs : List Loc) (ls : Array Slot), va_P D vwCl (mW h ad ct z54_st) H → va_D A (mW h ad ct z54_st) → va_S A s.heap H locs → lv_has ls 8 [(6, .int y86), (4, .int y76), (5, .int z54_5), (0, .ref h), (2, .int x2), (3, .int x3)] → W p l e R s m args below meth c H locs 0 0 Q (F0 m 105 ls [.int z105_s0, .int (y76 / (8 : Int32))])) ?_ ?_
              · intro j0 hj0 z105_s0 h105 hf H locs ls hP hD hS hl
                subst hj0
                refine lv_irem hx hb dX7_year_105 (by rcases h105 with ⟨_, q⟩ | ⟨_, q⟩ <;> rw [q] <;> decide) ?_
                refine lv_topi (fun y106 ey106 => ?_)
                have hf := kLt hf ey106
                refine lv_istore (lv' := [(7, .int y106), (6, .int y86), (4, .int y76), (5, .int z54_5), (0, .ref h), (2, .int x2), (3, .int x3)]) hx hb dX7_year_106 hl (by decide) rfl (fun ls hl => ?_)
                refine lv_aload_n hx hb dX7_year_108 rfl (lv_at hl 4 rfl) ?_
                refine lv_iload hx hb dX7_year_109 (lv_at hl 1 rfl) ?_
                refine lv_iload hx hb dX7_year_111 (lv_at hl 0 rfl) ?_
                have hM : kC l D ct z yX7_whyNot wsX7_whyNot 4 91 [.ref h, .int y86, .int y106] (mW h ad ct z54_st) (some (.int (f_X7_whyNot y86 y106 z54_st))) (mW h ad ct z54_st) := k_X7_whyNot l D ct z h ad y86 y106 z54_st
                refine kV1 (As := [.int y86, .int y106]) (rest := []) ⟨hx, hb, hml, hown, hts⟩ hM gX7_year_X7_whyNot kyX7_whyNot (by rw [hRf, hRl]; exact ⟨Nat.le_of_ble_eq_true rfl, Nat.le_of_ble_eq_true rfl⟩) hK hP hD hS hA 0 (mO h ad ct z54_st) rfl rfl rfl hl.1 rfl (st1 := [.int (f_X7_whyNot y86 y106 z54_st)]) rfl rfl ⟨Nat.zero_le _, Nat.zero_le _⟩ dX7_year_113 (fun H locs hP hD hS => ?_)
                refine kJn hf (fun j0 => ∀ (z127_st : Nat → Nat → Int32), (Int32.toInt (z127_st 0 4) < 6) → f_X7_year x1 x2 x3 st = j0 z127_st → ∀ (H : Heap) (locs : List Loc) (ls : Array Slot), va_P D vwCl (mW h ad ct z127_st) H → va_D A (mW h ad ct z127_st) → va_S A s.heap H locs → lv_has ls 8 [(4, .int y76), (5, .int z54_5), (0, .ref h), (2, .int x2), (3, .int x3)] → W p l e R s m args below meth c H locs 0 0 Q (F0 m 127 ls [])) ?_ ?_
                · intro j0 hj0 z127_st hw127 hf H locs ls hP hD hS hl
                  subst hj0
                  obtain ⟨y127, ey127⟩ : ∃ y : Int32, y = z54_5 + (1 : Int32) := ⟨_, rfl⟩
                  have hf := kLt hf ey127
                  have a127 : Int32.toInt y127 = Int32.toInt z54_5 + 1 := by have := ti_rng z54_5; rw [ey127]; exact ti_add (by rw [kc1]) (by omega) (by omega)
                  refine lv_iinc (v := y127) (lv' := [(5, .int y127), (4, .int y76), (0, .ref h), (2, .int x2), (3, .int x3)]) hx hb dX7_year_127 hl (k := 1) rfl (by rw [ey127]; rfl) (by decide) rfl (fun ls hl => ?_)
                  refine lv_goto (tgt := 54) hx hb dX7_year_130 (by decide) ?_
                  exact ih y127 y76 z127_st _ _ _ (by first | assumption | exact vin (by omega) (by omega) | omega) hw127 g76 hP hD hS (lv_sub hl [0, 1, 2, 3, 4] rfl) hf
                · intro j127 hJ127 hf
                  refine lv_if_ne (tgt := 127) hx hb dX7_year_116 (by decide) (fun c_6 => ?_) (fun c_6 => ?_)
                  · have hf := kIf hf c_6
                    have t_6 := ti_ne c_6
                    exact hJ127 _ (by first | exact g124b | exact hw54) hf _ _ _ hP hD hS (lv_sub hl [2, 3, 4, 5, 6] rfl)
                  · have hf := kIt hf c_6
                    have t_6 := ti_eq c_6
                    refine lv_aload_n hx hb dX7_year_119 rfl (lv_at hl 4 rfl) ?_
                    refine lv_iload hx hb dX7_year_120 (lv_at hl 1 rfl) ?_
                    refine lv_iload hx hb dX7_year_122 (lv_at hl 0 rfl) ?_
                    obtain ⟨q124, eq124⟩ : ∃ y, y = f_X7_happen y86 y106 z54_st := ⟨_, rfl⟩
                    have hf := kLt hf eq124
                    have g124 := happen_fr y86 y106 z54_st
                    rw [← eq124] at g124
                    have g124b : Int32.toInt (q124 0 4) < 6 := by
                      rcases g124.2.2.2 with q | ⟨q0, q⟩ | q
                      · rw [q]; exact hw54
                      · rw [q, ey106]; rcases h105 with ⟨_, w⟩ | ⟨w, _⟩
                        · rw [w]; exact jr6_lt _
                        · exact absurd q0 w
                      · rw [q]; decide
                    have hM : kC l D ct z yX7_happen wsX7_happen 5 107 [.ref h, .int y86, .int y106] (mW h ad ct z54_st) (none) (mW h ad ct q124) := by rw [eq124]; exact k_X7_happen l D ct z h ad y86 y106 z54_st (why_sail (by assumption)) (fun q => vin (why_call (by assumption) q) hw54)
                    refine kV1 (As := [.int y86, .int y106]) (rest := []) ⟨hx, hb, hml, hown, hts⟩ hM gX7_year_X7_happen kyX7_happen (by rw [hRf, hRl]; exact ⟨Nat.le_of_ble_eq_true rfl, Nat.le_of_ble_eq_true rfl⟩) hK hP hD hS hA 0 (mO h ad ct z54_st) rfl rfl rfl hl.1 rfl (st1 := []) rfl rfl ⟨Nat.zero_le _, Nat.zero_le _⟩ dX7_year_124 (fun H locs hP hD hS => ?_)
                    exact hJ127 _ (by first | exact g124b | exact hw54) hf _ _ _ hP hD hS (lv_sub hl [2, 3, 4, 5, 6] rfl)
              · intro j105 hJ105 hf
                refine lv_if_ne (tgt := 103) hx hb dX7_year_95 (by decide) (fun c_5 => ?_) (fun c_5 => ?_)
                · have hf := kIf hf c_5
                  have t_5 := ti_ne c_5
                  refine lv_bipush (v := (8 : Int32)) hx hb dX7_year_103 (by decide) ?_
                  exact hJ105 _ (by first | assumption | exact Or.inl ⟨by assumption, rfl⟩ | exact Or.inr ⟨by assumption, rfl⟩ | exact Or.inl rfl | exact Or.inr rfl | omega) hf _ _ _ hP hD hS (lv_sub hl [0, 1, 2, 3, 4, 5] rfl)
                · have hf := kIt hf c_5
                  have t_5 := ti_eq c_5
                  refine lv_bipush (v := (6 : Int32)) hx hb dX7_year_98 (by decide) ?_
                  refine lv_goto (tgt := 105) hx hb dX7_year_100 (by decide) ?_
                  exact hJ105 _ (by first | assumption | exact Or.inl ⟨by assumption, rfl⟩ | exact Or.inr ⟨by assumption, rfl⟩ | exact Or.inl rfl | exact Or.inr rfl | omega) hf _ _ _ hP hD hS (lv_sub hl [0, 1, 2, 3, 4, 5] rfl)
        refine lp54 _ (fun w54_st  H locs ls hw54 hP hD hS hl hf => ?_) (99) (0 : Int32) x1 (u2 q40 0 19 (0 : Int32))  _ _ _ (by first | assumption | exact vin (by omega) (by omega) | omega) (by show Int32.toInt (q40 0 4) < 6; rw [g40 0 (by decide)]; exact hwho) (by first | assumption | exact vin (by omega) (by omega) | omega) hP hD hS (lv_sub hl [0, 1, 2, 4, 5] rfl) hf
        refine lv_aload_n hx hb dX7_year_133 rfl (lv_at hl 0 rfl) ?_
        refine lv_iload_n hx hb dX7_year_134 rfl (lv_at hl 1 rfl) ?_
        refine kJn hf (fun j0 => ∀ (z161_s0 : Int32), f_X7_year x1 x2 x3 st = j0 z161_s0 → ∀ (H : Heap) (locs : List Loc) (ls : Array Slot), va_P D vwCl (mW h ad ct w54_st) H → va_D A (mW h ad ct w54_st) → va_S A s.heap H locs → lv_has ls 8 [] → W p l e R s m args below meth c H locs 0 0 Q (F0 m 161 ls [.int z161_s0, .ref h])) ?_ ?_
        · intro j0 hj0 z161_s0  hf H locs ls hP hD hS hl
          subst hj0
          obtain ⟨q161, eq161⟩ : ∃ y, y = f_X7_back z161_s0 w54_st := ⟨_, rfl⟩
          have hf := kLt hf eq161
          have hM : kC l D ct z yX7_back wsX7_back 0 0 [.ref h, .int z161_s0] (mW h ad ct w54_st) (some (.int q161.1)) (mW h ad ct q161.2) := by rw [eq161]; exact k_X7_back l D ct z h ad z161_s0 w54_st
          refine kV1 (As := [.int z161_s0]) (rest := []) ⟨hx, hb, hml, hown, hts⟩ hM gX7_year_X7_back kyX7_back (by rw [hRf, hRl]; exact ⟨Nat.le_of_ble_eq_true rfl, Nat.le_of_ble_eq_true rfl⟩) hK hP hD hS hA 0 (mO h ad ct w54_st) rfl rfl rfl hl.1 rfl (st1 := [.int q161.1]) rfl rfl ⟨Nat.zero_le _, Nat.zero_le _⟩ dX7_year_161 (fun H locs hP hD hS => ?_)
          exact kRetI hx hb hr hlk hP hD hS (kfst hf) ((congrArg (fun q => mW h ad ct q.2) hf).symm) hQ dX7_year_164
        · intro j161 hJ161 hf
          refine lv_if_ne (tgt := 145) hx hb dX7_year_135 (by decide) (fun c_8 => ?_) (fun c_8 => ?_)
          · have hf := kIf hf c_8
            have t_8 := ti_ne c_8
            refine lv_iload_n hx hb dX7_year_145 rfl (lv_at hl 1 rfl) ?_
            refine lv_iconst (v := (1 : Int32)) hx hb dX7_year_146 (by decide) ?_
            refine lv_icmp_ne (tgt := 157) hx hb dX7_year_147 (by decide) (fun c_9 => ?_) (fun c_9 => ?_)
            · have hf := kIf hf c_9
              have t_9 := ti_ne c_9
              refine lv_aload_n hx hb dX7_year_157 rfl (lv_at hl 0 rfl) ?_
              refine va_get (D := D) (cl := vwCl) (ci := 6) (v := .int (w54_st 0 19)) (C := RX7) (T := TX7) (N := 34) hx hb hts inX7 hown hK.1 hP 0 (mO h ad ct w54_st) rfl 19 (by decide) hw4 (fun _ h => h) (mF_19 ad w54_st) dX7_year_158 ?_
              exact hJ161 _  hf _ _ _ hP hD hS (lv_sub hl [] rfl)
            · have hf := kIt hf c_9
              have t_9 := ti_eq c_9
              refine lv_aload_n hx hb dX7_year_150 rfl (lv_at hl 0 rfl) ?_
              refine va_get (D := D) (cl := vwCl) (ci := 6) (v := .int (w54_st 0 2)) (C := RX7) (T := TX7) (N := 34) hx hb hts inX7 hown hK.1 hP 0 (mO h ad ct w54_st) rfl 2 (by decide) hw9 (fun _ h => h) (mF_2 ad w54_st) dX7_year_151 ?_
              refine lv_goto (tgt := 161) hx hb dX7_year_154 (by decide) ?_
              exact hJ161 _  hf _ _ _ hP hD hS (lv_sub hl [] rfl)
          · have hf := kIt hf c_8
            have t_8 := ti_eq c_8
            refine lv_aload_n hx hb dX7_year_138 rfl (lv_at hl 0 rfl) ?_
            refine va_get (D := D) (cl := vwCl) (ci := 6) (v := .int (w54_st 0 1)) (C := RX7) (T := TX7) (N := 34) hx hb hts inX7 hown hK.1 hP 0 (mO h ad ct w54_st) rfl 1 (by decide) hw8 (fun _ h => h) (mF_1 ad w54_st) dX7_year_139 ?_
            refine lv_goto (tgt := 161) hx hb dX7_year_142 (by decide) ?_
            exact hJ161 _  hf _ _ _ hP hD hS (lv_sub hl [] rfl)
      · have hf := kIt hf c_3
        have t_3 := ti_eq c_3
        refine lv_bipush (v := (-2 : Int32)) hx hb dX7_year_36 (by decide) ?_
        exact kRetI hx hb hr hlk hP hD hS (kfst hf) ((congrArg (fun q => mW h ad ct q.2) hf).symm) hQ dX7_year_38
theorem kyX7_pass : kY yX7_pass cX7_pass 3 (some .int) wsX7_pass wsX7_pass.tail 1 := ⟨rfl, by decide, by decide, by decide +kernel⟩
set_option maxHeartbeats 4000000 in
set_option maxRecDepth 100000 in
theorem k_X7_pass (l : Launch) (D : va_G) (ct : ClassId × ClassId × ClassId) (z : Nat × Nat) (h : Nat) (ad : Nat → Nat) (x1 : Int32) (st : Nat → Nat → Int32) (hk : 0 ≤ Int32.toInt (st 0 32) ∧ Int32.toInt (st 0 32) < 220) : kC l D ct z yX7_pass wsX7_pass 0 0 [.ref h, .int x1] (mW h ad ct st) (some (.int ((f_X7_pass x1 st).1))) (mW h ad ct ((f_X7_pass x1 st).2)) := by
  refine kHead (cc := cX7_pass) (maxL := 3) (ret := (some .int)) [(0, .ref h), (1, .int x1)] (by decide) rfl (Nat.le_of_ble_eq_true rfl) rfl ?_
  intro p e s m args below meth c A ls R Q hRf hRl hQ hx hb hr hlk hml hown hts hA hS hK hP hD hl
  have inX7 : ∀ w ∈ wsX70, w ∈ wsX7_pass := fun w h => (List.mem_cons_of_mem _ (List.mem_append_right _ h))
  have hw1 := hts (Cond.fieldLink RX7 300 "MastPulpitsModel" "isWriting" "Z") (List.mem_of_getElem? (i := 1) (by decide +kernel))
  have hw2 := hts (Cond.fieldLink RX7 53 "MastPulpitsModel" "kept" "[I") (List.mem_of_getElem? (i := 2) (by decide +kernel))
  have hw3 := hts (Cond.fieldLink RX7 304 "MastPulpitsModel" "keptAt" "I") (List.mem_of_getElem? (i := 3) (by decide +kernel))
  have kc0 : (0 : Int32).toInt = 0 := by decide
  have kc1 : (1 : Int32).toInt = 1 := by decide
  have hf : f_X7_pass x1 st = f_X7_pass x1 st := rfl
  refine lv_aload_n hx hb dX7_pass_0 rfl (lv_at hl 0 rfl) ?_
  refine va_get (D := D) (cl := vwCl) (ci := 6) (v := .int (st 0 33)) (C := RX7) (T := TX7) (N := 34) hx hb hts inX7 hown hK.1 hP 0 (mO h ad ct st) rfl 33 (by decide) hw1 (fun _ h => h) (mF_33 ad st) dX7_pass_1 ?_
  refine kJn hf (fun j0 => ∀ (z20_s0 : Int32), f_X7_pass x1 st = j0 z20_s0 → ∀ (H : Heap) (locs : List Loc) (ls : Array Slot), va_P D vwCl (mW h ad ct st) H → va_D A (mW h ad ct st) → va_S A s.heap H locs → lv_has ls 3 [(0, .ref h)] → W p l e R s m args below meth c H locs 0 0 Q (F0 m 20 ls [.int z20_s0])) ?_ ?_
  · intro j0 hj0 z20_s0  hf H locs ls hP hD hS hl
    subst hj0
    refine lv_istore_n (lv' := [(2, .int z20_s0), (0, .ref h)]) hx hb dX7_pass_20 rfl hl (by decide) rfl (fun ls hl => ?_)
    refine lv_aload_n hx hb dX7_pass_21 rfl (lv_at hl 1 rfl) ?_
    refine va_get (D := D) (cl := vwCl) (ci := 6) (v := .ref (ad 30)) (C := RX7) (T := TX7) (N := 34) hx hb hts inX7 hown hK.1 hP 0 (mO h ad ct st) rfl 30 (by decide) hw2 (fun _ h => h) (mF_30 ad st) dX7_pass_22 ?_
    refine lv_aload_n hx hb dX7_pass_25 rfl (lv_at hl 1 rfl) ?_
    refine va_get (D := D) (cl := vwCl) (ci := 6) (v := .int (st 0 32)) (C := RX7) (T := TX7) (N := 34) hx hb hts inX7 hown hK.1 hP 0 (mO h ad ct st) rfl 32 (by decide) hw3 (fun _ h => h) (mF_32 ad st) dX7_pass_26 ?_
    refine lv_iload_n hx hb dX7_pass_29 rfl (lv_at hl 0 rfl) ?_
    refine kIast (W1 := mW h ad ct (u2 st 31 ((Int32.toNatClampNeg (st 0 32))) z20_s0)) hx hb hK hP hD hS 15 (mA_30 h ad ct st) (by first | assumption | exact vin (by omega) (by omega) | omega) (mB_30 h ad ct st _ _) dX7_pass_30 (fun H locs hP hD hS => ?_)
    refine lv_aload_n hx hb dX7_pass_31 rfl (lv_at hl 1 rfl) ?_
    refine lv_dup hx hb dX7_pass_32 rfl ?_
    refine va_get (D := D) (cl := vwCl) (ci := 6) (v := .int (st 0 32)) (C := RX7) (T := TX7) (N := 34) hx hb hts inX7 hown hK.1 hP 0 (mO h ad ct (u2 st 31 ((Int32.toNatClampNeg (st 0 32))) z20_s0)) rfl 32 (by decide) hw3 (fun _ h => h) (mF_32 ad (u2 st 31 ((Int32.toNatClampNeg (st 0 32))) z20_s0)) dX7_pass_33 ?_
    refine lv_iconst (v := (1 : Int32)) hx hb dX7_pass_36 (by decide) ?_
    refine lv_iadd hx hb dX7_pass_37 ?_
    refine lv_topi (fun y38 ey38 => ?_)
    have hf := kLt hf ey38
    refine kPut (ci := 6) (C := RX7) (T := TX7) (N := 34) (ty := .int) (v := .int y38) (W1 := mW h ad ct (u2 (u2 st 31 ((Int32.toNatClampNeg (st 0 32))) z20_s0) 0 32 y38)) hx hb hts inX7 tyX7 tyX7_ok nmX7 hown hK hP hD hS 0 (mO h ad ct (u2 st 31 ((Int32.toNatClampNeg (st 0 32))) z20_s0)) rfl 32 (by decide) hw3 (fun _ h => h) rfl (by decide +kernel) rfl rfl (mLn 32 ad (u2 st 31 ((Int32.toNatClampNeg (st 0 32))) z20_s0) (by decide)) (mS_32 h ad ct (u2 st 31 ((Int32.toNatClampNeg (st 0 32))) z20_s0) y38) dX7_pass_38 (fun H locs hP hD hS => ?_)
    refine lv_iload_n hx hb dX7_pass_41 rfl (lv_at hl 0 rfl) ?_
    exact kRetI hx hb hr hlk hP hD hS (kfst hf) ((congrArg (fun q => mW h ad ct q.2) hf).symm) hQ dX7_pass_42
  · intro j20 hJ20 hf
    refine lv_if_eq (tgt := 11) hx hb dX7_pass_4 (by decide) (fun c_1 => ?_) (fun c_1 => ?_)
    · have hf := kIt hf c_1
      have t_1 := ti_eq c_1
      refine lv_aload_n hx hb dX7_pass_11 rfl (lv_at hl 0 rfl) ?_
      refine va_get (D := D) (cl := vwCl) (ci := 6) (v := .ref (ad 30)) (C := RX7) (T := TX7) (N := 34) hx hb hts inX7 hown hK.1 hP 0 (mO h ad ct st) rfl 30 (by decide) hw2 (fun _ h => h) (mF_30 ad st) dX7_pass_12 ?_
      refine lv_aload_n hx hb dX7_pass_15 rfl (lv_at hl 0 rfl) ?_
      refine va_get (D := D) (cl := vwCl) (ci := 6) (v := .int (st 0 32)) (C := RX7) (T := TX7) (N := 34) hx hb hts inX7 hown hK.1 hP 0 (mO h ad ct st) rfl 32 (by decide) hw3 (fun _ h => h) (mF_32 ad st) dX7_pass_16 ?_
      refine va_iald hx hb hK.1 hP 15 0 (mA_30 h ad ct st) rfl (by first | assumption | exact vin (by omega) (by omega) | omega) dX7_pass_19 ?_
      exact hJ20 _  hf _ _ _ hP hD hS (lv_sub hl [0] rfl)
    · have hf := kIf hf c_1
      have t_1 := ti_ne c_1
      refine lv_iload_n hx hb dX7_pass_7 rfl (lv_at hl 1 rfl) ?_
      refine lv_goto (tgt := 20) hx hb dX7_pass_8 (by decide) ?_
      exact hJ20 _  hf _ _ _ hP hD hS (lv_sub hl [0] rfl)
theorem kyX7_passRow : kY yX7_passRow cX7_passRow 4 none wsX7_passRow wsX7_passRow.tail 2 := ⟨rfl, by decide, by decide, by decide +kernel⟩
set_option maxHeartbeats 4000000 in
set_option maxRecDepth 100000 in
theorem k_X7_passRow_1 (l : Launch) (D : va_G) (ct : ClassId × ClassId × ClassId) (z : Nat × Nat) (h : Nat) (ad : Nat → Nat) (x2 : Int32) (st : Nat → Nat → Int32) (hk : 0 ≤ Int32.toInt (st 0 32) ∧ Int32.toInt (st 0 32) + Int32.toInt x2 ≤ 220) (hmany : Int32.toInt x2 ≤ 64) : kC l D ct z yX7_passRow wsX7_passRow 1 22 [.ref h, .ref (ad 0), .int x2] (mW h ad ct st) (none) (mW h ad ct (f_X7_passRow_1 x2 st)) := by
  refine kHead (cc := cX7_passRow) (maxL := 4) (ret := none) [(0, .ref h), (1, .ref (ad 0)), (2, .int x2)] (by decide) rfl (Nat.le_of_ble_eq_true rfl) rfl ?_
  intro p e s m args below meth c A ls R Q hRf hRl hQ hx hb hr hlk hml hown hts hA hS hK hP hD hl
  have kc0 : (0 : Int32).toInt = 0 := by decide
  have kc1 : (1 : Int32).toInt = 1 := by decide
  have hf : f_X7_passRow_1 x2 st = f_X7_passRow_1 x2 st := rfl
  refine lv_iconst (v := (0 : Int32)) hx hb dX7_passRow_0 (by decide) ?_
  refine lv_istore_n (lv' := [(3, .int (0 : Int32)), (0, .ref h), (1, .ref (ad 0)), (2, .int x2)]) hx hb dX7_passRow_1 rfl hl (by decide) rfl (fun ls hl => ?_)
  have lp2 : ∀ (K : (Nat → Nat → Int32) → (Nat → Nat → Int32)), (∀ (z2_st : Nat → Nat → Int32), ∀ (H : Heap) (locs : List Loc) (ls : Array Slot), va_P D vwCl (mW h ad ct z2_st) H → va_D A (mW h ad ct z2_st) → va_S A s.heap H locs → lv_has ls 4 [] → f_X7_passRow_1 x2 st = K z2_st → W p l e R s m args below meth c H locs 0 0 Q (F0 m 23 ls [])) → ∀ (n : Nat) (z2_3 : Int32) (z2_st : Nat → Nat → Int32), ∀ (H : Heap) (locs : List Loc) (ls : Array Slot), (Int32.toInt x2 ≤ Int32.toInt z2_3 + (n : Int)) → (0 ≤ Int32.toInt z2_3) → (Int32.toInt (z2_st 0 32) = Int32.toInt (st 0 32) + Int32.toInt z2_3) → va_P D vwCl (mW h ad ct z2_st) H → va_D A (mW h ad ct z2_st) → va_S A s.heap H locs → lv_has ls 4 [(3, .int z2_3), (0, .ref h), (1, .ref (ad 0)), (2, .int x2)] → f_X7_passRow_1 x2 st = f_X7_passRow_1_L2 x2 K n z2_3 z2_st → W p l e R s m args below meth c H locs 0 0 Q (F0 m 2 ls []) := by
    intro K hk n
    induction n with
    | zero =>
      intro z2_3 z2_st  H locs ls hn2 hz2 hk2 hP hD hS hl hf
      refine lv_iload_n hx hb dX7_passRow_2 rfl (lv_at hl 0 rfl) ?_
      refine lv_iload_n hx hb dX7_passRow_3 rfl (lv_at hl 3 rfl) ?_
      refine lv_icmp_ge (tgt := 23) hx hb dX7_passRow_4 (by decide) (fun c_2 => ?_) (fun c_2 => ?_)
      · have t_2 := ti_le c_2
        exact hk _ _ _ _  hP hD hS (lv_sub hl [] rfl) hf
      · have t_2 := ti_nle c_2
        exfalso
        omega
    | succ n ih =>
      intro z2_3 z2_st  H locs ls hn2 hz2 hk2 hP hD hS hl hf
      refine lv_iload_n hx hb dX7_passRow_2 rfl (lv_at hl 0 rfl) ?_
      refine lv_iload_n hx hb dX7_passRow_3 rfl (lv_at hl 3 rfl) ?_
      refine lv_icmp_ge (tgt := 23) hx hb dX7_passRow_4 (by decide) (fun c_1 => ?_) (fun c_1 => ?_)
      · have hf := kIt hf c_1
        have t_1 := ti_le c_1
        exact hk _ _ _ _  hP hD hS (lv_sub hl [] rfl) hf
      · have hf := kIf hf c_1
        have t_1 := ti_nle c_1
        refine lv_aload_n hx hb dX7_passRow_7 rfl (lv_at hl 2 rfl) ?_
        refine lv_iload_n hx hb dX7_passRow_8 rfl (lv_at hl 0 rfl) ?_
        refine lv_aload_n hx hb dX7_passRow_9 rfl (lv_at hl 1 rfl) ?_
        refine lv_aload_n hx hb dX7_passRow_10 rfl (lv_at hl 2 rfl) ?_
        refine lv_iload_n hx hb dX7_passRow_11 rfl (lv_at hl 0 rfl) ?_
        refine va_iald hx hb hK.1 hP 1 0 (mA_0 h ad ct z2_st) rfl (by first | assumption | exact vin (by omega) (by omega) | omega) dX7_passRow_12 ?_
        obtain ⟨q13, eq13⟩ : ∃ y, y = f_X7_pass (z2_st 1 (Int32.toNatClampNeg z2_3)) z2_st := ⟨_, rfl⟩
        have hf := kLt hf eq13
        have g13 := pass_at (z2_st 1 (Int32.toNatClampNeg z2_3)) z2_st (by omega)
        rw [← eq13] at g13
        have hM : kC l D ct z yX7_pass wsX7_pass 0 0 [.ref h, .int (z2_st 1 (Int32.toNatClampNeg z2_3))] (mW h ad ct z2_st) (some (.int q13.1)) (mW h ad ct q13.2) := by rw [eq13]; exact k_X7_pass l D ct z h ad (z2_st 1 (Int32.toNatClampNeg z2_3)) z2_st (by first | assumption | exact vin (by omega) (by omega) | omega)
        refine kV1 (As := [.int (z2_st 1 (Int32.toNatClampNeg z2_3))]) (rest := [.int z2_3, .ref (ad 0)]) ⟨hx, hb, hml, hown, hts⟩ hM gX7_passRow_X7_pass kyX7_pass (by rw [hRf, hRl]; exact ⟨Nat.le_of_ble_eq_true rfl, Nat.le_of_ble_eq_true rfl⟩) hK hP hD hS hA 0 (mO h ad ct z2_st) rfl rfl rfl hl.1 rfl (st1 := [.int q13.1, .int z2_3, .ref (ad 0)]) rfl rfl ⟨Nat.zero_le _, Nat.zero_le _⟩ dX7_passRow_13 (fun H locs hP hD hS => ?_)
        refine kIast (W1 := mW h ad ct (u2 q13.2 1 ((Int32.toNatClampNeg z2_3)) q13.1)) hx hb hK hP hD hS 1 (mA_0 h ad ct q13.2) (by first | assumption | exact vin (by omega) (by omega) | omega) (mB_0 h ad ct q13.2 _ _) dX7_passRow_16 (fun H locs hP hD hS => ?_)
        obtain ⟨y17, ey17⟩ : ∃ y : Int32, y = z2_3 + (1 : Int32) := ⟨_, rfl⟩
        have hf := kLt hf ey17
        have a17 : Int32.toInt y17 = Int32.toInt z2_3 + 1 := by have := ti_rng z2_3; rw [ey17]; exact ti_add (by rw [kc1]) (by omega) (by omega)
        refine lv_iinc (v := y17) (lv' := [(3, .int y17), (0, .ref h), (1, .ref (ad 0)), (2, .int x2)]) hx hb dX7_passRow_17 hl (k := 0) rfl (by rw [ey17]; rfl) (by decide) rfl (fun ls hl => ?_)
        refine lv_goto (tgt := 2) hx hb dX7_passRow_20 (by decide) ?_
        exact ih y17 (u2 q13.2 1 ((Int32.toNatClampNeg z2_3)) q13.1) _ _ _ (by first | assumption | exact vin (by omega) (by omega) | omega) (by first | assumption | exact vin (by omega) (by omega) | omega) (by show Int32.toInt (q13.2 0 32) = _; omega) hP hD hS (lv_sub hl [0, 1, 2, 3] rfl) hf
  refine lp2 _ (fun w2_st  H locs ls  hP hD hS hl hf => ?_) (64) (0 : Int32) st  _ _ _ (by first | assumption | exact vin (by omega) (by omega) | omega) (by first | assumption | exact vin (by omega) (by omega) | omega) (by omega) hP hD hS (lv_sub hl [0, 1, 2, 3] rfl) hf
  exact kRetV hx hb hr hlk hP hD hS ((congrArg (fun q => mW h ad ct q) hf).symm) hQ dX7_passRow_23
set_option maxHeartbeats 4000000 in
set_option maxRecDepth 100000 in
theorem k_X7_passRow_2 (l : Launch) (D : va_G) (ct : ClassId × ClassId × ClassId) (z : Nat × Nat) (h : Nat) (ad : Nat → Nat) (x2 : Int32) (st : Nat → Nat → Int32) (hk : 0 ≤ Int32.toInt (st 0 32) ∧ Int32.toInt (st 0 32) + Int32.toInt x2 ≤ 220) (hmany : Int32.toInt x2 ≤ 6) : kC l D ct z yX7_passRow wsX7_passRow 1 22 [.ref h, .ref (ad 3), .int x2] (mW h ad ct st) (none) (mW h ad ct (f_X7_passRow_2 x2 st)) := by
  refine kHead (cc := cX7_passRow) (maxL := 4) (ret := none) [(0, .ref h), (1, .ref (ad 3)), (2, .int x2)] (by decide) rfl (Nat.le_of_ble_eq_true rfl) rfl ?_
  intro p e s m args below meth c A ls R Q hRf hRl hQ hx hb hr hlk hml hown hts hA hS hK hP hD hl
  have kc0 : (0 : Int32).toInt = 0 := by decide
  have kc1 : (1 : Int32).toInt = 1 := by decide
  have hf : f_X7_passRow_2 x2 st = f_X7_passRow_2 x2 st := rfl
  refine lv_iconst (v := (0 : Int32)) hx hb dX7_passRow_0 (by decide) ?_
  refine lv_istore_n (lv' := [(3, .int (0 : Int32)), (0, .ref h), (1, .ref (ad 3)), (2, .int x2)]) hx hb dX7_passRow_1 rfl hl (by decide) rfl (fun ls hl => ?_)
  have lp2 : ∀ (K : (Nat → Nat → Int32) → (Nat → Nat → Int32)), (∀ (z2_st : Nat → Nat → Int32), ∀ (H : Heap) (locs : List Loc) (ls : Array Slot), va_P D vwCl (mW h ad ct z2_st) H → va_D A (mW h ad ct z2_st) → va_S A s.heap H locs → lv_has ls 4 [] → f_X7_passRow_2 x2 st = K z2_st → W p l e R s m args below meth c H locs 0 0 Q (F0 m 23 ls [])) → ∀ (n : Nat) (z2_3 : Int32) (z2_st : Nat → Nat → Int32), ∀ (H : Heap) (locs : List Loc) (ls : Array Slot), (Int32.toInt x2 ≤ Int32.toInt z2_3 + (n : Int)) → (0 ≤ Int32.toInt z2_3) → (Int32.toInt (z2_st 0 32) = Int32.toInt (st 0 32) + Int32.toInt z2_3) → va_P D vwCl (mW h ad ct z2_st) H → va_D A (mW h ad ct z2_st) → va_S A s.heap H locs → lv_has ls 4 [(3, .int z2_3), (0, .ref h), (1, .ref (ad 3)), (2, .int x2)] → f_X7_passRow_2 x2 st = f_X7_passRow_2_L2 x2 K n z2_3 z2_st → W p l e R s m args below meth c H locs 0 0 Q (F0 m 2 ls []) := by
    intro K hk n
    induction n with
    | zero =>
      intro z2_3 z2_st  H locs ls hn2 hz2 hk2 hP hD hS hl hf
      refine lv_iload_n hx hb dX7_passRow_2 rfl (lv_at hl 0 rfl) ?_
      refine lv_iload_n hx hb dX7_passRow_3 rfl (lv_at hl 3 rfl) ?_
      refine lv_icmp_ge (tgt := 23) hx hb dX7_passRow_4 (by decide) (fun c_2 => ?_) (fun c_2 => ?_)
      · have t_2 := ti_le c_2
        exact hk _ _ _ _  hP hD hS (lv_sub hl [] rfl) hf
      · have t_2 := ti_nle c_2
        exfalso
        omega
    | succ n ih =>
      intro z2_3 z2_st  H locs ls hn2 hz2 hk2 hP hD hS hl hf
      refine lv_iload_n hx hb dX7_passRow_2 rfl (lv_at hl 0 rfl) ?_
      refine lv_iload_n hx hb dX7_passRow_3 rfl (lv_at hl 3 rfl) ?_
      refine lv_icmp_ge (tgt := 23) hx hb dX7_passRow_4 (by decide) (fun c_1 => ?_) (fun c_1 => ?_)
      · have hf := kIt hf c_1
        have t_1 := ti_le c_1
        exact hk _ _ _ _  hP hD hS (lv_sub hl [] rfl) hf
      · have hf := kIf hf c_1
        have t_1 := ti_nle c_1
        refine lv_aload_n hx hb dX7_passRow_7 rfl (lv_at hl 2 rfl) ?_
        refine lv_iload_n hx hb dX7_passRow_8 rfl (lv_at hl 0 rfl) ?_
        refine lv_aload_n hx hb dX7_passRow_9 rfl (lv_at hl 1 rfl) ?_
        refine lv_aload_n hx hb dX7_passRow_10 rfl (lv_at hl 2 rfl) ?_
        refine lv_iload_n hx hb dX7_passRow_11 rfl (lv_at hl 0 rfl) ?_
        refine va_iald hx hb hK.1 hP 2 0 (mA_3 h ad ct z2_st) rfl (by first | assumption | exact vin (by omega) (by omega) | omega) dX7_passRow_12 ?_
        obtain ⟨q13, eq13⟩ : ∃ y, y = f_X7_pass (z2_st 4 (Int32.toNatClampNeg z2_3)) z2_st := ⟨_, rfl⟩
        have hf := kLt hf eq13
        have g13 := pass_at (z2_st 4 (Int32.toNatClampNeg z2_3)) z2_st (by omega)
        rw [← eq13] at g13
        have hM : kC l D ct z yX7_pass wsX7_pass 0 0 [.ref h, .int (z2_st 4 (Int32.toNatClampNeg z2_3))] (mW h ad ct z2_st) (some (.int q13.1)) (mW h ad ct q13.2) := by rw [eq13]; exact k_X7_pass l D ct z h ad (z2_st 4 (Int32.toNatClampNeg z2_3)) z2_st (by first | assumption | exact vin (by omega) (by omega) | omega)
        refine kV1 (As := [.int (z2_st 4 (Int32.toNatClampNeg z2_3))]) (rest := [.int z2_3, .ref (ad 3)]) ⟨hx, hb, hml, hown, hts⟩ hM gX7_passRow_X7_pass kyX7_pass (by rw [hRf, hRl]; exact ⟨Nat.le_of_ble_eq_true rfl, Nat.le_of_ble_eq_true rfl⟩) hK hP hD hS hA 0 (mO h ad ct z2_st) rfl rfl rfl hl.1 rfl (st1 := [.int q13.1, .int z2_3, .ref (ad 3)]) rfl rfl ⟨Nat.zero_le _, Nat.zero_le _⟩ dX7_passRow_13 (fun H locs hP hD hS => ?_)
        refine kIast (W1 := mW h ad ct (u2 q13.2 4 ((Int32.toNatClampNeg z2_3)) q13.1)) hx hb hK hP hD hS 2 (mA_3 h ad ct q13.2) (by first | assumption | exact vin (by omega) (by omega) | omega) (mB_3 h ad ct q13.2 _ _) dX7_passRow_16 (fun H locs hP hD hS => ?_)
        obtain ⟨y17, ey17⟩ : ∃ y : Int32, y = z2_3 + (1 : Int32) := ⟨_, rfl⟩
        have hf := kLt hf ey17
        have a17 : Int32.toInt y17 = Int32.toInt z2_3 + 1 := by have := ti_rng z2_3; rw [ey17]; exact ti_add (by rw [kc1]) (by omega) (by omega)
        refine lv_iinc (v := y17) (lv' := [(3, .int y17), (0, .ref h), (1, .ref (ad 3)), (2, .int x2)]) hx hb dX7_passRow_17 hl (k := 0) rfl (by rw [ey17]; rfl) (by decide) rfl (fun ls hl => ?_)
        refine lv_goto (tgt := 2) hx hb dX7_passRow_20 (by decide) ?_
        exact ih y17 (u2 q13.2 4 ((Int32.toNatClampNeg z2_3)) q13.1) _ _ _ (by first | assumption | exact vin (by omega) (by omega) | omega) (by first | assumption | exact vin (by omega) (by omega) | omega) (by show Int32.toInt (q13.2 0 32) = _; omega) hP hD hS (lv_sub hl [0, 1, 2, 3] rfl) hf
  refine lp2 _ (fun w2_st  H locs ls  hP hD hS hl hf => ?_) (6) (0 : Int32) st  _ _ _ (by first | assumption | exact vin (by omega) (by omega) | omega) (by first | assumption | exact vin (by omega) (by omega) | omega) (by omega) hP hD hS (lv_sub hl [0, 1, 2, 3] rfl) hf
  exact kRetV hx hb hr hlk hP hD hS ((congrArg (fun q => mW h ad ct q) hf).symm) hQ dX7_passRow_23
set_option maxHeartbeats 4000000 in
set_option maxRecDepth 100000 in
theorem k_X7_passRow_3 (l : Launch) (D : va_G) (ct : ClassId × ClassId × ClassId) (z : Nat × Nat) (h : Nat) (ad : Nat → Nat) (x2 : Int32) (st : Nat → Nat → Int32) (hk : 0 ≤ Int32.toInt (st 0 32) ∧ Int32.toInt (st 0 32) + Int32.toInt x2 ≤ 220) (hmany : Int32.toInt x2 ≤ 8) : kC l D ct z yX7_passRow wsX7_passRow 1 22 [.ref h, .ref (ad 8), .int x2] (mW h ad ct st) (none) (mW h ad ct (f_X7_passRow_3 x2 st)) := by
  refine kHead (cc := cX7_passRow) (maxL := 4) (ret := none) [(0, .ref h), (1, .ref (ad 8)), (2, .int x2)] (by decide) rfl (Nat.le_of_ble_eq_true rfl) rfl ?_
  intro p e s m args below meth c A ls R Q hRf hRl hQ hx hb hr hlk hml hown hts hA hS hK hP hD hl
  have kc0 : (0 : Int32).toInt = 0 := by decide
  have kc1 : (1 : Int32).toInt = 1 := by decide
  have hf : f_X7_passRow_3 x2 st = f_X7_passRow_3 x2 st := rfl
  refine lv_iconst (v := (0 : Int32)) hx hb dX7_passRow_0 (by decide) ?_
  refine lv_istore_n (lv' := [(3, .int (0 : Int32)), (0, .ref h), (1, .ref (ad 8)), (2, .int x2)]) hx hb dX7_passRow_1 rfl hl (by decide) rfl (fun ls hl => ?_)
  have lp2 : ∀ (K : (Nat → Nat → Int32) → (Nat → Nat → Int32)), (∀ (z2_st : Nat → Nat → Int32), ∀ (H : Heap) (locs : List Loc) (ls : Array Slot), va_P D vwCl (mW h ad ct z2_st) H → va_D A (mW h ad ct z2_st) → va_S A s.heap H locs → lv_has ls 4 [] → f_X7_passRow_3 x2 st = K z2_st → W p l e R s m args below meth c H locs 0 0 Q (F0 m 23 ls [])) → ∀ (n : Nat) (z2_3 : Int32) (z2_st : Nat → Nat → Int32), ∀ (H : Heap) (locs : List Loc) (ls : Array Slot), (Int32.toInt x2 ≤ Int32.toInt z2_3 + (n : Int)) → (0 ≤ Int32.toInt z2_3) → (Int32.toInt (z2_st 0 32) = Int32.toInt (st 0 32) + Int32.toInt z2_3) → va_P D vwCl (mW h ad ct z2_st) H → va_D A (mW h ad ct z2_st) → va_S A s.heap H locs → lv_has ls 4 [(3, .int z2_3), (0, .ref h), (1, .ref (ad 8)), (2, .int x2)] → f_X7_passRow_3 x2 st = f_X7_passRow_3_L2 x2 K n z2_3 z2_st → W p l e R s m args below meth c H locs 0 0 Q (F0 m 2 ls []) := by
    intro K hk n
    induction n with
    | zero =>
      intro z2_3 z2_st  H locs ls hn2 hz2 hk2 hP hD hS hl hf
      refine lv_iload_n hx hb dX7_passRow_2 rfl (lv_at hl 0 rfl) ?_
      refine lv_iload_n hx hb dX7_passRow_3 rfl (lv_at hl 3 rfl) ?_
      refine lv_icmp_ge (tgt := 23) hx hb dX7_passRow_4 (by decide) (fun c_2 => ?_) (fun c_2 => ?_)
      · have t_2 := ti_le c_2
        exact hk _ _ _ _  hP hD hS (lv_sub hl [] rfl) hf
      · have t_2 := ti_nle c_2
        exfalso
        omega
    | succ n ih =>
      intro z2_3 z2_st  H locs ls hn2 hz2 hk2 hP hD hS hl hf
      refine lv_iload_n hx hb dX7_passRow_2 rfl (lv_at hl 0 rfl) ?_
      refine lv_iload_n hx hb dX7_passRow_3 rfl (lv_at hl 3 rfl) ?_
      refine lv_icmp_ge (tgt := 23) hx hb dX7_passRow_4 (by decide) (fun c_1 => ?_) (fun c_1 => ?_)
      · have hf := kIt hf c_1
        have t_1 := ti_le c_1
        exact hk _ _ _ _  hP hD hS (lv_sub hl [] rfl) hf
      · have hf := kIf hf c_1
        have t_1 := ti_nle c_1
        refine lv_aload_n hx hb dX7_passRow_7 rfl (lv_at hl 2 rfl) ?_
        refine lv_iload_n hx hb dX7_passRow_8 rfl (lv_at hl 0 rfl) ?_
        refine lv_aload_n hx hb dX7_passRow_9 rfl (lv_at hl 1 rfl) ?_
        refine lv_aload_n hx hb dX7_passRow_10 rfl (lv_at hl 2 rfl) ?_
        refine lv_iload_n hx hb dX7_passRow_11 rfl (lv_at hl 0 rfl) ?_
        refine va_iald hx hb hK.1 hP 3 0 (mA_8 h ad ct z2_st) rfl (by first | assumption | exact vin (by omega) (by omega) | omega) dX7_passRow_12 ?_
        obtain ⟨q13, eq13⟩ : ∃ y, y = f_X7_pass (z2_st 9 (Int32.toNatClampNeg z2_3)) z2_st := ⟨_, rfl⟩
        have hf := kLt hf eq13
        have g13 := pass_at (z2_st 9 (Int32.toNatClampNeg z2_3)) z2_st (by omega)
        rw [← eq13] at g13
        have hM : kC l D ct z yX7_pass wsX7_pass 0 0 [.ref h, .int (z2_st 9 (Int32.toNatClampNeg z2_3))] (mW h ad ct z2_st) (some (.int q13.1)) (mW h ad ct q13.2) := by rw [eq13]; exact k_X7_pass l D ct z h ad (z2_st 9 (Int32.toNatClampNeg z2_3)) z2_st (by first | assumption | exact vin (by omega) (by omega) | omega)
        refine kV1 (As := [.int (z2_st 9 (Int32.toNatClampNeg z2_3))]) (rest := [.int z2_3, .ref (ad 8)]) ⟨hx, hb, hml, hown, hts⟩ hM gX7_passRow_X7_pass kyX7_pass (by rw [hRf, hRl]; exact ⟨Nat.le_of_ble_eq_true rfl, Nat.le_of_ble_eq_true rfl⟩) hK hP hD hS hA 0 (mO h ad ct z2_st) rfl rfl rfl hl.1 rfl (st1 := [.int q13.1, .int z2_3, .ref (ad 8)]) rfl rfl ⟨Nat.zero_le _, Nat.zero_le _⟩ dX7_passRow_13 (fun H locs hP hD hS => ?_)
        refine kIast (W1 := mW h ad ct (u2 q13.2 9 ((Int32.toNatClampNeg z2_3)) q13.1)) hx hb hK hP hD hS 3 (mA_8 h ad ct q13.2) (by first | assumption | exact vin (by omega) (by omega) | omega) (mB_8 h ad ct q13.2 _ _) dX7_passRow_16 (fun H locs hP hD hS => ?_)
        obtain ⟨y17, ey17⟩ : ∃ y : Int32, y = z2_3 + (1 : Int32) := ⟨_, rfl⟩
        have hf := kLt hf ey17
        have a17 : Int32.toInt y17 = Int32.toInt z2_3 + 1 := by have := ti_rng z2_3; rw [ey17]; exact ti_add (by rw [kc1]) (by omega) (by omega)
        refine lv_iinc (v := y17) (lv' := [(3, .int y17), (0, .ref h), (1, .ref (ad 8)), (2, .int x2)]) hx hb dX7_passRow_17 hl (k := 0) rfl (by rw [ey17]; rfl) (by decide) rfl (fun ls hl => ?_)
        refine lv_goto (tgt := 2) hx hb dX7_passRow_20 (by decide) ?_
        exact ih y17 (u2 q13.2 9 ((Int32.toNatClampNeg z2_3)) q13.1) _ _ _ (by first | assumption | exact vin (by omega) (by omega) | omega) (by first | assumption | exact vin (by omega) (by omega) | omega) (by show Int32.toInt (q13.2 0 32) = _; omega) hP hD hS (lv_sub hl [0, 1, 2, 3] rfl) hf
  refine lp2 _ (fun w2_st  H locs ls  hP hD hS hl hf => ?_) (8) (0 : Int32) st  _ _ _ (by first | assumption | exact vin (by omega) (by omega) | omega) (by first | assumption | exact vin (by omega) (by omega) | omega) (by omega) hP hD hS (lv_sub hl [0, 1, 2, 3] rfl) hf
  exact kRetV hx hb hr hlk hP hD hS ((congrArg (fun q => mW h ad ct q) hf).symm) hQ dX7_passRow_23
set_option maxHeartbeats 4000000 in
set_option maxRecDepth 100000 in
theorem k_X7_passRow_4 (l : Launch) (D : va_G) (ct : ClassId × ClassId × ClassId) (z : Nat × Nat) (h : Nat) (ad : Nat → Nat) (x2 : Int32) (st : Nat → Nat → Int32) (hk : 0 ≤ Int32.toInt (st 0 32) ∧ Int32.toInt (st 0 32) + Int32.toInt x2 ≤ 220) (hmany : Int32.toInt x2 ≤ 8) : kC l D ct z yX7_passRow wsX7_passRow 1 22 [.ref h, .ref (ad 9), .int x2] (mW h ad ct st) (none) (mW h ad ct (f_X7_passRow_4 x2 st)) := by
  refine kHead (cc := cX7_passRow) (maxL := 4) (ret := none) [(0, .ref h), (1, .ref (ad 9)), (2, .int x2)] (by decide) rfl (Nat.le_of_ble_eq_true rfl) rfl ?_
  intro p e s m args below meth c A ls R Q hRf hRl hQ hx hb hr hlk hml hown hts hA hS hK hP hD hl
  have kc0 : (0 : Int32).toInt = 0 := by decide
  have kc1 : (1 : Int32).toInt = 1 := by decide
  have hf : f_X7_passRow_4 x2 st = f_X7_passRow_4 x2 st := rfl
  refine lv_iconst (v := (0 : Int32)) hx hb dX7_passRow_0 (by decide) ?_
  refine lv_istore_n (lv' := [(3, .int (0 : Int32)), (0, .ref h), (1, .ref (ad 9)), (2, .int x2)]) hx hb dX7_passRow_1 rfl hl (by decide) rfl (fun ls hl => ?_)
  have lp2 : ∀ (K : (Nat → Nat → Int32) → (Nat → Nat → Int32)), (∀ (z2_st : Nat → Nat → Int32), ∀ (H : Heap) (locs : List Loc) (ls : Array Slot), va_P D vwCl (mW h ad ct z2_st) H → va_D A (mW h ad ct z2_st) → va_S A s.heap H locs → lv_has ls 4 [] → f_X7_passRow_4 x2 st = K z2_st → W p l e R s m args below meth c H locs 0 0 Q (F0 m 23 ls [])) → ∀ (n : Nat) (z2_3 : Int32) (z2_st : Nat → Nat → Int32), ∀ (H : Heap) (locs : List Loc) (ls : Array Slot), (Int32.toInt x2 ≤ Int32.toInt z2_3 + (n : Int)) → (0 ≤ Int32.toInt z2_3) → (Int32.toInt (z2_st 0 32) = Int32.toInt (st 0 32) + Int32.toInt z2_3) → va_P D vwCl (mW h ad ct z2_st) H → va_D A (mW h ad ct z2_st) → va_S A s.heap H locs → lv_has ls 4 [(3, .int z2_3), (0, .ref h), (1, .ref (ad 9)), (2, .int x2)] → f_X7_passRow_4 x2 st = f_X7_passRow_4_L2 x2 K n z2_3 z2_st → W p l e R s m args below meth c H locs 0 0 Q (F0 m 2 ls []) := by
    intro K hk n
    induction n with
    | zero =>
      intro z2_3 z2_st  H locs ls hn2 hz2 hk2 hP hD hS hl hf
      refine lv_iload_n hx hb dX7_passRow_2 rfl (lv_at hl 0 rfl) ?_
      refine lv_iload_n hx hb dX7_passRow_3 rfl (lv_at hl 3 rfl) ?_
      refine lv_icmp_ge (tgt := 23) hx hb dX7_passRow_4 (by decide) (fun c_2 => ?_) (fun c_2 => ?_)
      · have t_2 := ti_le c_2
        exact hk _ _ _ _  hP hD hS (lv_sub hl [] rfl) hf
      · have t_2 := ti_nle c_2
        exfalso
        omega
    | succ n ih =>
      intro z2_3 z2_st  H locs ls hn2 hz2 hk2 hP hD hS hl hf
      refine lv_iload_n hx hb dX7_passRow_2 rfl (lv_at hl 0 rfl) ?_
      refine lv_iload_n hx hb dX7_passRow_3 rfl (lv_at hl 3 rfl) ?_
      refine lv_icmp_ge (tgt := 23) hx hb dX7_passRow_4 (by decide) (fun c_1 => ?_) (fun c_1 => ?_)
      · have hf := kIt hf c_1
        have t_1 := ti_le c_1
        exact hk _ _ _ _  hP hD hS (lv_sub hl [] rfl) hf
      · have hf := kIf hf c_1
        have t_1 := ti_nle c_1
        refine lv_aload_n hx hb dX7_passRow_7 rfl (lv_at hl 2 rfl) ?_
        refine lv_iload_n hx hb dX7_passRow_8 rfl (lv_at hl 0 rfl) ?_
        refine lv_aload_n hx hb dX7_passRow_9 rfl (lv_at hl 1 rfl) ?_
        refine lv_aload_n hx hb dX7_passRow_10 rfl (lv_at hl 2 rfl) ?_
        refine lv_iload_n hx hb dX7_passRow_11 rfl (lv_at hl 0 rfl) ?_
        refine va_iald hx hb hK.1 hP 4 0 (mA_9 h ad ct z2_st) rfl (by first | assumption | exact vin (by omega) (by omega) | omega) dX7_passRow_12 ?_
        obtain ⟨q13, eq13⟩ : ∃ y, y = f_X7_pass (z2_st 10 (Int32.toNatClampNeg z2_3)) z2_st := ⟨_, rfl⟩
        have hf := kLt hf eq13
        have g13 := pass_at (z2_st 10 (Int32.toNatClampNeg z2_3)) z2_st (by omega)
        rw [← eq13] at g13
        have hM : kC l D ct z yX7_pass wsX7_pass 0 0 [.ref h, .int (z2_st 10 (Int32.toNatClampNeg z2_3))] (mW h ad ct z2_st) (some (.int q13.1)) (mW h ad ct q13.2) := by rw [eq13]; exact k_X7_pass l D ct z h ad (z2_st 10 (Int32.toNatClampNeg z2_3)) z2_st (by first | assumption | exact vin (by omega) (by omega) | omega)
        refine kV1 (As := [.int (z2_st 10 (Int32.toNatClampNeg z2_3))]) (rest := [.int z2_3, .ref (ad 9)]) ⟨hx, hb, hml, hown, hts⟩ hM gX7_passRow_X7_pass kyX7_pass (by rw [hRf, hRl]; exact ⟨Nat.le_of_ble_eq_true rfl, Nat.le_of_ble_eq_true rfl⟩) hK hP hD hS hA 0 (mO h ad ct z2_st) rfl rfl rfl hl.1 rfl (st1 := [.int q13.1, .int z2_3, .ref (ad 9)]) rfl rfl ⟨Nat.zero_le _, Nat.zero_le _⟩ dX7_passRow_13 (fun H locs hP hD hS => ?_)
        refine kIast (W1 := mW h ad ct (u2 q13.2 10 ((Int32.toNatClampNeg z2_3)) q13.1)) hx hb hK hP hD hS 4 (mA_9 h ad ct q13.2) (by first | assumption | exact vin (by omega) (by omega) | omega) (mB_9 h ad ct q13.2 _ _) dX7_passRow_16 (fun H locs hP hD hS => ?_)
        obtain ⟨y17, ey17⟩ : ∃ y : Int32, y = z2_3 + (1 : Int32) := ⟨_, rfl⟩
        have hf := kLt hf ey17
        have a17 : Int32.toInt y17 = Int32.toInt z2_3 + 1 := by have := ti_rng z2_3; rw [ey17]; exact ti_add (by rw [kc1]) (by omega) (by omega)
        refine lv_iinc (v := y17) (lv' := [(3, .int y17), (0, .ref h), (1, .ref (ad 9)), (2, .int x2)]) hx hb dX7_passRow_17 hl (k := 0) rfl (by rw [ey17]; rfl) (by decide) rfl (fun ls hl => ?_)
        refine lv_goto (tgt := 2) hx hb dX7_passRow_20 (by decide) ?_
        exact ih y17 (u2 q13.2 10 ((Int32.toNatClampNeg z2_3)) q13.1) _ _ _ (by first | assumption | exact vin (by omega) (by omega) | omega) (by first | assumption | exact vin (by omega) (by omega) | omega) (by show Int32.toInt (q13.2 0 32) = _; omega) hP hD hS (lv_sub hl [0, 1, 2, 3] rfl) hf
  refine lp2 _ (fun w2_st  H locs ls  hP hD hS hl hf => ?_) (8) (0 : Int32) st  _ _ _ (by first | assumption | exact vin (by omega) (by omega) | omega) (by first | assumption | exact vin (by omega) (by omega) | omega) (by omega) hP hD hS (lv_sub hl [0, 1, 2, 3] rfl) hf
  exact kRetV hx hb hr hlk hP hD hS ((congrArg (fun q => mW h ad ct q) hf).symm) hQ dX7_passRow_23
set_option maxHeartbeats 4000000 in
set_option maxRecDepth 100000 in
theorem k_X7_passRow_5 (l : Launch) (D : va_G) (ct : ClassId × ClassId × ClassId) (z : Nat × Nat) (h : Nat) (ad : Nat → Nat) (x2 : Int32) (st : Nat → Nat → Int32) (hk : 0 ≤ Int32.toInt (st 0 32) ∧ Int32.toInt (st 0 32) + Int32.toInt x2 ≤ 220) (hmany : Int32.toInt x2 ≤ 8) : kC l D ct z yX7_passRow wsX7_passRow 1 22 [.ref h, .ref (ad 10), .int x2] (mW h ad ct st) (none) (mW h ad ct (f_X7_passRow_5 x2 st)) := by
  refine kHead (cc := cX7_passRow) (maxL := 4) (ret := none) [(0, .ref h), (1, .ref (ad 10)), (2, .int x2)] (by decide) rfl (Nat.le_of_ble_eq_true rfl) rfl ?_
  intro p e s m args below meth c A ls R Q hRf hRl hQ hx hb hr hlk hml hown hts hA hS hK hP hD hl
  have kc0 : (0 : Int32).toInt = 0 := by decide
  have kc1 : (1 : Int32).toInt = 1 := by decide
  have hf : f_X7_passRow_5 x2 st = f_X7_passRow_5 x2 st := rfl
  refine lv_iconst (v := (0 : Int32)) hx hb dX7_passRow_0 (by decide) ?_
  refine lv_istore_n (lv' := [(3, .int (0 : Int32)), (0, .ref h), (1, .ref (ad 10)), (2, .int x2)]) hx hb dX7_passRow_1 rfl hl (by decide) rfl (fun ls hl => ?_)
  have lp2 : ∀ (K : (Nat → Nat → Int32) → (Nat → Nat → Int32)), (∀ (z2_st : Nat → Nat → Int32), ∀ (H : Heap) (locs : List Loc) (ls : Array Slot), va_P D vwCl (mW h ad ct z2_st) H → va_D A (mW h ad ct z2_st) → va_S A s.heap H locs → lv_has ls 4 [] → f_X7_passRow_5 x2 st = K z2_st → W p l e R s m args below meth c H locs 0 0 Q (F0 m 23 ls [])) → ∀ (n : Nat) (z2_3 : Int32) (z2_st : Nat → Nat → Int32), ∀ (H : Heap) (locs : List Loc) (ls : Array Slot), (Int32.toInt x2 ≤ Int32.toInt z2_3 + (n : Int)) → (0 ≤ Int32.toInt z2_3) → (Int32.toInt (z2_st 0 32) = Int32.toInt (st 0 32) + Int32.toInt z2_3) → va_P D vwCl (mW h ad ct z2_st) H → va_D A (mW h ad ct z2_st) → va_S A s.heap H locs → lv_has ls 4 [(3, .int z2_3), (0, .ref h), (1, .ref (ad 10)), (2, .int x2)] → f_X7_passRow_5 x2 st = f_X7_passRow_5_L2 x2 K n z2_3 z2_st → W p l e R s m args below meth c H locs 0 0 Q (F0 m 2 ls []) := by
    intro K hk n
    induction n with
    | zero =>
      intro z2_3 z2_st  H locs ls hn2 hz2 hk2 hP hD hS hl hf
      refine lv_iload_n hx hb dX7_passRow_2 rfl (lv_at hl 0 rfl) ?_
      refine lv_iload_n hx hb dX7_passRow_3 rfl (lv_at hl 3 rfl) ?_
      refine lv_icmp_ge (tgt := 23) hx hb dX7_passRow_4 (by decide) (fun c_2 => ?_) (fun c_2 => ?_)
      · have t_2 := ti_le c_2
        exact hk _ _ _ _  hP hD hS (lv_sub hl [] rfl) hf
      · have t_2 := ti_nle c_2
        exfalso
        omega
    | succ n ih =>
      intro z2_3 z2_st  H locs ls hn2 hz2 hk2 hP hD hS hl hf
      refine lv_iload_n hx hb dX7_passRow_2 rfl (lv_at hl 0 rfl) ?_
      refine lv_iload_n hx hb dX7_passRow_3 rfl (lv_at hl 3 rfl) ?_
      refine lv_icmp_ge (tgt := 23) hx hb dX7_passRow_4 (by decide) (fun c_1 => ?_) (fun c_1 => ?_)
      · have hf := kIt hf c_1
        have t_1 := ti_le c_1
        exact hk _ _ _ _  hP hD hS (lv_sub hl [] rfl) hf
      · have hf := kIf hf c_1
        have t_1 := ti_nle c_1
        refine lv_aload_n hx hb dX7_passRow_7 rfl (lv_at hl 2 rfl) ?_
        refine lv_iload_n hx hb dX7_passRow_8 rfl (lv_at hl 0 rfl) ?_
        refine lv_aload_n hx hb dX7_passRow_9 rfl (lv_at hl 1 rfl) ?_
        refine lv_aload_n hx hb dX7_passRow_10 rfl (lv_at hl 2 rfl) ?_
        refine lv_iload_n hx hb dX7_passRow_11 rfl (lv_at hl 0 rfl) ?_
        refine va_iald hx hb hK.1 hP 5 0 (mA_10 h ad ct z2_st) rfl (by first | assumption | exact vin (by omega) (by omega) | omega) dX7_passRow_12 ?_
        obtain ⟨q13, eq13⟩ : ∃ y, y = f_X7_pass (z2_st 11 (Int32.toNatClampNeg z2_3)) z2_st := ⟨_, rfl⟩
        have hf := kLt hf eq13
        have g13 := pass_at (z2_st 11 (Int32.toNatClampNeg z2_3)) z2_st (by omega)
        rw [← eq13] at g13
        have hM : kC l D ct z yX7_pass wsX7_pass 0 0 [.ref h, .int (z2_st 11 (Int32.toNatClampNeg z2_3))] (mW h ad ct z2_st) (some (.int q13.1)) (mW h ad ct q13.2) := by rw [eq13]; exact k_X7_pass l D ct z h ad (z2_st 11 (Int32.toNatClampNeg z2_3)) z2_st (by first | assumption | exact vin (by omega) (by omega) | omega)
        refine kV1 (As := [.int (z2_st 11 (Int32.toNatClampNeg z2_3))]) (rest := [.int z2_3, .ref (ad 10)]) ⟨hx, hb, hml, hown, hts⟩ hM gX7_passRow_X7_pass kyX7_pass (by rw [hRf, hRl]; exact ⟨Nat.le_of_ble_eq_true rfl, Nat.le_of_ble_eq_true rfl⟩) hK hP hD hS hA 0 (mO h ad ct z2_st) rfl rfl rfl hl.1 rfl (st1 := [.int q13.1, .int z2_3, .ref (ad 10)]) rfl rfl ⟨Nat.zero_le _, Nat.zero_le _⟩ dX7_passRow_13 (fun H locs hP hD hS => ?_)
        refine kIast (W1 := mW h ad ct (u2 q13.2 11 ((Int32.toNatClampNeg z2_3)) q13.1)) hx hb hK hP hD hS 5 (mA_10 h ad ct q13.2) (by first | assumption | exact vin (by omega) (by omega) | omega) (mB_10 h ad ct q13.2 _ _) dX7_passRow_16 (fun H locs hP hD hS => ?_)
        obtain ⟨y17, ey17⟩ : ∃ y : Int32, y = z2_3 + (1 : Int32) := ⟨_, rfl⟩
        have hf := kLt hf ey17
        have a17 : Int32.toInt y17 = Int32.toInt z2_3 + 1 := by have := ti_rng z2_3; rw [ey17]; exact ti_add (by rw [kc1]) (by omega) (by omega)
        refine lv_iinc (v := y17) (lv' := [(3, .int y17), (0, .ref h), (1, .ref (ad 10)), (2, .int x2)]) hx hb dX7_passRow_17 hl (k := 0) rfl (by rw [ey17]; rfl) (by decide) rfl (fun ls hl => ?_)
        refine lv_goto (tgt := 2) hx hb dX7_passRow_20 (by decide) ?_
        exact ih y17 (u2 q13.2 11 ((Int32.toNatClampNeg z2_3)) q13.1) _ _ _ (by first | assumption | exact vin (by omega) (by omega) | omega) (by first | assumption | exact vin (by omega) (by omega) | omega) (by show Int32.toInt (q13.2 0 32) = _; omega) hP hD hS (lv_sub hl [0, 1, 2, 3] rfl) hf
  refine lp2 _ (fun w2_st  H locs ls  hP hD hS hl hf => ?_) (8) (0 : Int32) st  _ _ _ (by first | assumption | exact vin (by omega) (by omega) | omega) (by first | assumption | exact vin (by omega) (by omega) | omega) (by omega) hP hD hS (lv_sub hl [0, 1, 2, 3] rfl) hf
  exact kRetV hx hb hr hlk hP hD hS ((congrArg (fun q => mW h ad ct q) hf).symm) hQ dX7_passRow_23
theorem kyX7_passAll : kY yX7_passAll cX7_passAll 1 none wsX7_passAll wsX7_passAll.tail 0 := ⟨rfl, by decide, by decide, by decide +kernel⟩
set_option maxHeartbeats 4000000 in
set_option maxRecDepth 100000 in
theorem k_X7_passAll (l : Launch) (D : va_G) (ct : ClassId × ClassId × ClassId) (z : Nat × Nat) (h : Nat) (ad : Nat → Nat) (st : Nat → Nat → Int32) (hk : 0 ≤ Int32.toInt (st 0 32) ∧ Int32.toInt (st 0 32) ≤ 110) : kC l D ct z yX7_passAll wsX7_passAll 2 45 [.ref h] (mW h ad ct st) (none) (mW h ad ct (f_X7_passAll st)) := by
  refine kHead (cc := cX7_passAll) (maxL := 1) (ret := none) [(0, .ref h)] (by decide) rfl (Nat.le_of_ble_eq_true rfl) rfl ?_
  intro p e s m args below meth c A ls R Q hRf hRl hQ hx hb hr hlk hml hown hts hA hS hK hP hD hl
  have inX7 : ∀ w ∈ wsX70, w ∈ wsX7_passAll := fun w h => (List.mem_cons_of_mem _ (List.mem_append_right _ h))
  have hw1 := hts (Cond.fieldLink RX7 59 "MastPulpitsModel" "place" "I") (List.mem_of_getElem? (i := 1) (by decide +kernel))
  have hw2 := hts (Cond.fieldLink RX7 63 "MastPulpitsModel" "hull" "I") (List.mem_of_getElem? (i := 2) (by decide +kernel))
  have hw3 := hts (Cond.fieldLink RX7 66 "MastPulpitsModel" "who" "I") (List.mem_of_getElem? (i := 3) (by decide +kernel))
  have hw4 := hts (Cond.fieldLink RX7 146 "MastPulpitsModel" "hours" "I") (List.mem_of_getElem? (i := 4) (by decide +kernel))
  have hw5 := hts (Cond.fieldLink RX7 104 "MastPulpitsModel" "mist" "I") (List.mem_of_getElem? (i := 5) (by decide +kernel))
  have hw6 := hts (Cond.fieldLink RX7 143 "MastPulpitsModel" "hour" "I") (List.mem_of_getElem? (i := 6) (by decide +kernel))
  have hw7 := hts (Cond.fieldLink RX7 253 "MastPulpitsModel" "sights" "I") (List.mem_of_getElem? (i := 7) (by decide +kernel))
  have hw8 := hts (Cond.fieldLink RX7 7 "MastPulpitsModel" "ground" "[I") (List.mem_of_getElem? (i := 8) (by decide +kernel))
  have hw9 := hts (Cond.fieldLink RX7 13 "MastPulpitsModel" "eyes" "[I") (List.mem_of_getElem? (i := 9) (by decide +kernel))
  have hw10 := hts (Cond.fieldLink RX7 16 "MastPulpitsModel" "sightCell" "[I") (List.mem_of_getElem? (i := 10) (by decide +kernel))
  have hw11 := hts (Cond.fieldLink RX7 19 "MastPulpitsModel" "sightGlass" "[I") (List.mem_of_getElem? (i := 11) (by decide +kernel))
  have hw12 := hts (Cond.fieldLink RX7 22 "MastPulpitsModel" "sightSees" "[I") (List.mem_of_getElem? (i := 12) (by decide +kernel))
  have kc0 : (0 : Int32).toInt = 0 := by decide
  have kc6 : (6 : Int32).toInt = 6 := by decide
  have kc8 : (8 : Int32).toInt = 8 := by decide
  have kc64 : (64 : Int32).toInt = 64 := by decide
  have hf : f_X7_passAll st = f_X7_passAll st := rfl
  refine lv_aload_n hx hb dX7_passAll_0 rfl (lv_at hl 0 rfl) ?_
  refine lv_aload_n hx hb dX7_passAll_1 rfl (lv_at hl 0 rfl) ?_
  refine lv_aload_n hx hb dX7_passAll_2 rfl (lv_at hl 0 rfl) ?_
  refine va_get (D := D) (cl := vwCl) (ci := 6) (v := .int (st 0 1)) (C := RX7) (T := TX7) (N := 34) hx hb hts inX7 hown hK.1 hP 0 (mO h ad ct st) rfl 1 (by decide) hw1 (fun _ h => h) (mF_1 ad st) dX7_passAll_3 ?_
  obtain ⟨q6, eq6⟩ : ∃ y, y = f_X7_pass (st 0 1) st := ⟨_, rfl⟩
  have hf := kLt hf eq6
  have g6 : Int32.toInt (q6.2 0 32) = Int32.toInt (st 0 32) + 1 := by rw [eq6]; exact pass_at _ _ (show 0 ≤ Int32.toInt (st 0 32) ∧ Int32.toInt (st 0 32) < 220 by omega)
  have hM : kC l D ct z yX7_pass wsX7_pass 0 0 [.ref h, .int (st 0 1)] (mW h ad ct st) (some (.int q6.1)) (mW h ad ct q6.2) := by rw [eq6]; exact k_X7_pass l D ct z h ad (st 0 1) st (show 0 ≤ Int32.toInt (st 0 32) ∧ Int32.toInt (st 0 32) < 220 by omega)
  refine kV1 (As := [.int (st 0 1)]) (rest := [.ref h]) ⟨hx, hb, hml, hown, hts⟩ hM gX7_passAll_X7_pass kyX7_pass (by rw [hRf, hRl]; exact ⟨Nat.le_of_ble_eq_true rfl, Nat.le_of_ble_eq_true rfl⟩) hK hP hD hS hA 0 (mO h ad ct st) rfl rfl rfl hl.1 rfl (st1 := [.int q6.1, .ref h]) rfl rfl ⟨Nat.zero_le _, Nat.zero_le _⟩ dX7_passAll_6 (fun H locs hP hD hS => ?_)
  refine kPut (ci := 6) (C := RX7) (T := TX7) (N := 34) (ty := .int) (v := .int q6.1) (W1 := mW h ad ct (u2 q6.2 0 1 q6.1)) hx hb hts inX7 tyX7 tyX7_ok nmX7 hown hK hP hD hS 0 (mO h ad ct q6.2) rfl 1 (by decide) hw1 (fun _ h => h) rfl (by decide +kernel) rfl rfl (mLn 1 ad q6.2 (by decide)) (mS_1 h ad ct q6.2 q6.1) dX7_passAll_9 (fun H locs hP hD hS => ?_)
  refine lv_aload_n hx hb dX7_passAll_12 rfl (lv_at hl 0 rfl) ?_
  refine lv_aload_n hx hb dX7_passAll_13 rfl (lv_at hl 0 rfl) ?_
  refine lv_aload_n hx hb dX7_passAll_14 rfl (lv_at hl 0 rfl) ?_
  refine va_get (D := D) (cl := vwCl) (ci := 6) (v := .int (q6.2 0 2)) (C := RX7) (T := TX7) (N := 34) hx hb hts inX7 hown hK.1 hP 0 (mO h ad ct (u2 q6.2 0 1 q6.1)) rfl 2 (by decide) hw2 (fun _ h => h) (mF_2 ad (u2 q6.2 0 1 q6.1)) dX7_passAll_15 ?_
  obtain ⟨q18, eq18⟩ : ∃ y, y = f_X7_pass (q6.2 0 2) (u2 q6.2 0 1 q6.1) := ⟨_, rfl⟩
  have hf := kLt hf eq18
  have g18 : Int32.toInt (q18.2 0 32) = Int32.toInt (q6.2 0 32) + 1 := by rw [eq18]; exact pass_at _ _ (show 0 ≤ Int32.toInt (q6.2 0 32) ∧ Int32.toInt (q6.2 0 32) < 220 by omega)
  have hM : kC l D ct z yX7_pass wsX7_pass 0 0 [.ref h, .int (q6.2 0 2)] (mW h ad ct (u2 q6.2 0 1 q6.1)) (some (.int q18.1)) (mW h ad ct q18.2) := by rw [eq18]; exact k_X7_pass l D ct z h ad (q6.2 0 2) (u2 q6.2 0 1 q6.1) (show 0 ≤ Int32.toInt (q6.2 0 32) ∧ Int32.toInt (q6.2 0 32) < 220 by omega)
  refine kV1 (As := [.int (q6.2 0 2)]) (rest := [.ref h]) ⟨hx, hb, hml, hown, hts⟩ hM gX7_passAll_X7_pass kyX7_pass (by rw [hRf, hRl]; exact ⟨Nat.le_of_ble_eq_true rfl, Nat.le_of_ble_eq_true rfl⟩) hK hP hD hS hA 0 (mO h ad ct (u2 q6.2 0 1 q6.1)) rfl rfl rfl hl.1 rfl (st1 := [.int q18.1, .ref h]) rfl rfl ⟨Nat.zero_le _, Nat.zero_le _⟩ dX7_passAll_18 (fun H locs hP hD hS => ?_)
  refine kPut (ci := 6) (C := RX7) (T := TX7) (N := 34) (ty := .int) (v := .int q18.1) (W1 := mW h ad ct (u2 q18.2 0 2 q18.1)) hx hb hts inX7 tyX7 tyX7_ok nmX7 hown hK hP hD hS 0 (mO h ad ct q18.2) rfl 2 (by decide) hw2 (fun _ h => h) rfl (by decide +kernel) rfl rfl (mLn 2 ad q18.2 (by decide)) (mS_2 h ad ct q18.2 q18.1) dX7_passAll_21 (fun H locs hP hD hS => ?_)
  refine lv_aload_n hx hb dX7_passAll_24 rfl (lv_at hl 0 rfl) ?_
  refine lv_aload_n hx hb dX7_passAll_25 rfl (lv_at hl 0 rfl) ?_
  refine lv_aload_n hx hb dX7_passAll_26 rfl (lv_at hl 0 rfl) ?_
  refine va_get (D := D) (cl := vwCl) (ci := 6) (v := .int (q18.2 0 4)) (C := RX7) (T := TX7) (N := 34) hx hb hts inX7 hown hK.1 hP 0 (mO h ad ct (u2 q18.2 0 2 q18.1)) rfl 4 (by decide) hw3 (fun _ h => h) (mF_4 ad (u2 q18.2 0 2 q18.1)) dX7_passAll_27 ?_
  obtain ⟨q30, eq30⟩ : ∃ y, y = f_X7_pass (q18.2 0 4) (u2 q18.2 0 2 q18.1) := ⟨_, rfl⟩
  have hf := kLt hf eq30
  have g30 : Int32.toInt (q30.2 0 32) = Int32.toInt (q18.2 0 32) + 1 := by rw [eq30]; exact pass_at _ _ (show 0 ≤ Int32.toInt (q18.2 0 32) ∧ Int32.toInt (q18.2 0 32) < 220 by omega)
  have hM : kC l D ct z yX7_pass wsX7_pass 0 0 [.ref h, .int (q18.2 0 4)] (mW h ad ct (u2 q18.2 0 2 q18.1)) (some (.int q30.1)) (mW h ad ct q30.2) := by rw [eq30]; exact k_X7_pass l D ct z h ad (q18.2 0 4) (u2 q18.2 0 2 q18.1) (show 0 ≤ Int32.toInt (q18.2 0 32) ∧ Int32.toInt (q18.2 0 32) < 220 by omega)
  refine kV1 (As := [.int (q18.2 0 4)]) (rest := [.ref h]) ⟨hx, hb, hml, hown, hts⟩ hM gX7_passAll_X7_pass kyX7_pass (by rw [hRf, hRl]; exact ⟨Nat.le_of_ble_eq_true rfl, Nat.le_of_ble_eq_true rfl⟩) hK hP hD hS hA 0 (mO h ad ct (u2 q18.2 0 2 q18.1)) rfl rfl rfl hl.1 rfl (st1 := [.int q30.1, .ref h]) rfl rfl ⟨Nat.zero_le _, Nat.zero_le _⟩ dX7_passAll_30 (fun H locs hP hD hS => ?_)
  refine kPut (ci := 6) (C := RX7) (T := TX7) (N := 34) (ty := .int) (v := .int q30.1) (W1 := mW h ad ct (u2 q30.2 0 4 q30.1)) hx hb hts inX7 tyX7 tyX7_ok nmX7 hown hK hP hD hS 0 (mO h ad ct q30.2) rfl 4 (by decide) hw3 (fun _ h => h) rfl (by decide +kernel) rfl rfl (mLn 4 ad q30.2 (by decide)) (mS_4 h ad ct q30.2 q30.1) dX7_passAll_33 (fun H locs hP hD hS => ?_)
  refine lv_aload_n hx hb dX7_passAll_36 rfl (lv_at hl 0 rfl) ?_
  refine lv_aload_n hx hb dX7_passAll_37 rfl (lv_at hl 0 rfl) ?_
  refine lv_aload_n hx hb dX7_passAll_38 rfl (lv_at hl 0 rfl) ?_
  refine va_get (D := D) (cl := vwCl) (ci := 6) (v := .int (q30.2 0 5)) (C := RX7) (T := TX7) (N := 34) hx hb hts inX7 hown hK.1 hP 0 (mO h ad ct (u2 q30.2 0 4 q30.1)) rfl 5 (by decide) hw4 (fun _ h => h) (mF_5 ad (u2 q30.2 0 4 q30.1)) dX7_passAll_39 ?_
  obtain ⟨q42, eq42⟩ : ∃ y, y = f_X7_pass (q30.2 0 5) (u2 q30.2 0 4 q30.1) := ⟨_, rfl⟩
  have hf := kLt hf eq42
  have g42 : Int32.toInt (q42.2 0 32) = Int32.toInt (q30.2 0 32) + 1 := by rw [eq42]; exact pass_at _ _ (show 0 ≤ Int32.toInt (q30.2 0 32) ∧ Int32.toInt (q30.2 0 32) < 220 by omega)
  have hM : kC l D ct z yX7_pass wsX7_pass 0 0 [.ref h, .int (q30.2 0 5)] (mW h ad ct (u2 q30.2 0 4 q30.1)) (some (.int q42.1)) (mW h ad ct q42.2) := by rw [eq42]; exact k_X7_pass l D ct z h ad (q30.2 0 5) (u2 q30.2 0 4 q30.1) (show 0 ≤ Int32.toInt (q30.2 0 32) ∧ Int32.toInt (q30.2 0 32) < 220 by omega)
  refine kV1 (As := [.int (q30.2 0 5)]) (rest := [.ref h]) ⟨hx, hb, hml, hown, hts⟩ hM gX7_passAll_X7_pass kyX7_pass (by rw [hRf, hRl]; exact ⟨Nat.le_of_ble_eq_true rfl, Nat.le_of_ble_eq_true rfl⟩) hK hP hD hS hA 0 (mO h ad ct (u2 q30.2 0 4 q30.1)) rfl rfl rfl hl.1 rfl (st1 := [.int q42.1, .ref h]) rfl rfl ⟨Nat.zero_le _, Nat.zero_le _⟩ dX7_passAll_42 (fun H locs hP hD hS => ?_)
  refine kPut (ci := 6) (C := RX7) (T := TX7) (N := 34) (ty := .int) (v := .int q42.1) (W1 := mW h ad ct (u2 q42.2 0 5 q42.1)) hx hb hts inX7 tyX7 tyX7_ok nmX7 hown hK hP hD hS 0 (mO h ad ct q42.2) rfl 5 (by decide) hw4 (fun _ h => h) rfl (by decide +kernel) rfl rfl (mLn 5 ad q42.2 (by decide)) (mS_5 h ad ct q42.2 q42.1) dX7_passAll_45 (fun H locs hP hD hS => ?_)
  refine lv_aload_n hx hb dX7_passAll_48 rfl (lv_at hl 0 rfl) ?_
  refine lv_aload_n hx hb dX7_passAll_49 rfl (lv_at hl 0 rfl) ?_
  refine lv_aload_n hx hb dX7_passAll_50 rfl (lv_at hl 0 rfl) ?_
  refine va_get (D := D) (cl := vwCl) (ci := 6) (v := .int (q42.2 0 6)) (C := RX7) (T := TX7) (N := 34) hx hb hts inX7 hown hK.1 hP 0 (mO h ad ct (u2 q42.2 0 5 q42.1)) rfl 6 (by decide) hw5 (fun _ h => h) (mF_6 ad (u2 q42.2 0 5 q42.1)) dX7_passAll_51 ?_
  obtain ⟨q54, eq54⟩ : ∃ y, y = f_X7_pass (q42.2 0 6) (u2 q42.2 0 5 q42.1) := ⟨_, rfl⟩
  have hf := kLt hf eq54
  have g54 : Int32.toInt (q54.2 0 32) = Int32.toInt (q42.2 0 32) + 1 := by rw [eq54]; exact pass_at _ _ (show 0 ≤ Int32.toInt (q42.2 0 32) ∧ Int32.toInt (q42.2 0 32) < 220 by omega)
  have hM : kC l D ct z yX7_pass wsX7_pass 0 0 [.ref h, .int (q42.2 0 6)] (mW h ad ct (u2 q42.2 0 5 q42.1)) (some (.int q54.1)) (mW h ad ct q54.2) := by rw [eq54]; exact k_X7_pass l D ct z h ad (q42.2 0 6) (u2 q42.2 0 5 q42.1) (show 0 ≤ Int32.toInt (q42.2 0 32) ∧ Int32.toInt (q42.2 0 32) < 220 by omega)
  refine kV1 (As := [.int (q42.2 0 6)]) (rest := [.ref h]) ⟨hx, hb, hml, hown, hts⟩ hM gX7_passAll_X7_pass kyX7_pass (by rw [hRf, hRl]; exact ⟨Nat.le_of_ble_eq_true rfl, Nat.le_of_ble_eq_true rfl⟩) hK hP hD hS hA 0 (mO h ad ct (u2 q42.2 0 5 q42.1)) rfl rfl rfl hl.1 rfl (st1 := [.int q54.1, .ref h]) rfl rfl ⟨Nat.zero_le _, Nat.zero_le _⟩ dX7_passAll_54 (fun H locs hP hD hS => ?_)
  refine kPut (ci := 6) (C := RX7) (T := TX7) (N := 34) (ty := .int) (v := .int q54.1) (W1 := mW h ad ct (u2 q54.2 0 6 q54.1)) hx hb hts inX7 tyX7 tyX7_ok nmX7 hown hK hP hD hS 0 (mO h ad ct q54.2) rfl 6 (by decide) hw5 (fun _ h => h) rfl (by decide +kernel) rfl rfl (mLn 6 ad q54.2 (by decide)) (mS_6 h ad ct q54.2 q54.1) dX7_passAll_57 (fun H locs hP hD hS => ?_)
  refine lv_aload_n hx hb dX7_passAll_60 rfl (lv_at hl 0 rfl) ?_
  refine lv_aload_n hx hb dX7_passAll_61 rfl (lv_at hl 0 rfl) ?_
  refine lv_aload_n hx hb dX7_passAll_62 rfl (lv_at hl 0 rfl) ?_
  refine va_get (D := D) (cl := vwCl) (ci := 6) (v := .int (q54.2 0 7)) (C := RX7) (T := TX7) (N := 34) hx hb hts inX7 hown hK.1 hP 0 (mO h ad ct (u2 q54.2 0 6 q54.1)) rfl 7 (by decide) hw6 (fun _ h => h) (mF_7 ad (u2 q54.2 0 6 q54.1)) dX7_passAll_63 ?_
  obtain ⟨q66, eq66⟩ : ∃ y, y = f_X7_pass (q54.2 0 7) (u2 q54.2 0 6 q54.1) := ⟨_, rfl⟩
  have hf := kLt hf eq66
  have g66 : Int32.toInt (q66.2 0 32) = Int32.toInt (q54.2 0 32) + 1 := by rw [eq66]; exact pass_at _ _ (show 0 ≤ Int32.toInt (q54.2 0 32) ∧ Int32.toInt (q54.2 0 32) < 220 by omega)
  have hM : kC l D ct z yX7_pass wsX7_pass 0 0 [.ref h, .int (q54.2 0 7)] (mW h ad ct (u2 q54.2 0 6 q54.1)) (some (.int q66.1)) (mW h ad ct q66.2) := by rw [eq66]; exact k_X7_pass l D ct z h ad (q54.2 0 7) (u2 q54.2 0 6 q54.1) (show 0 ≤ Int32.toInt (q54.2 0 32) ∧ Int32.toInt (q54.2 0 32) < 220 by omega)
  refine kV1 (As := [.int (q54.2 0 7)]) (rest := [.ref h]) ⟨hx, hb, hml, hown, hts⟩ hM gX7_passAll_X7_pass kyX7_pass (by rw [hRf, hRl]; exact ⟨Nat.le_of_ble_eq_true rfl, Nat.le_of_ble_eq_true rfl⟩) hK hP hD hS hA 0 (mO h ad ct (u2 q54.2 0 6 q54.1)) rfl rfl rfl hl.1 rfl (st1 := [.int q66.1, .ref h]) rfl rfl ⟨Nat.zero_le _, Nat.zero_le _⟩ dX7_passAll_66 (fun H locs hP hD hS => ?_)
  refine kPut (ci := 6) (C := RX7) (T := TX7) (N := 34) (ty := .int) (v := .int q66.1) (W1 := mW h ad ct (u2 q66.2 0 7 q66.1)) hx hb hts inX7 tyX7 tyX7_ok nmX7 hown hK hP hD hS 0 (mO h ad ct q66.2) rfl 7 (by decide) hw6 (fun _ h => h) rfl (by decide +kernel) rfl rfl (mLn 7 ad q66.2 (by decide)) (mS_7 h ad ct q66.2 q66.1) dX7_passAll_69 (fun H locs hP hD hS => ?_)
  refine lv_aload_n hx hb dX7_passAll_72 rfl (lv_at hl 0 rfl) ?_
  refine lv_aload_n hx hb dX7_passAll_73 rfl (lv_at hl 0 rfl) ?_
  refine lv_aload_n hx hb dX7_passAll_74 rfl (lv_at hl 0 rfl) ?_
  refine va_get (D := D) (cl := vwCl) (ci := 6) (v := .int (q66.2 0 11)) (C := RX7) (T := TX7) (N := 34) hx hb hts inX7 hown hK.1 hP 0 (mO h ad ct (u2 q66.2 0 7 q66.1)) rfl 11 (by decide) hw7 (fun _ h => h) (mF_11 ad (u2 q66.2 0 7 q66.1)) dX7_passAll_75 ?_
  obtain ⟨q78, eq78⟩ : ∃ y, y = f_X7_pass (q66.2 0 11) (u2 q66.2 0 7 q66.1) := ⟨_, rfl⟩
  have hf := kLt hf eq78
  have g78 : Int32.toInt (q78.2 0 32) = Int32.toInt (q66.2 0 32) + 1 := by rw [eq78]; exact pass_at _ _ (show 0 ≤ Int32.toInt (q66.2 0 32) ∧ Int32.toInt (q66.2 0 32) < 220 by omega)
  have hM : kC l D ct z yX7_pass wsX7_pass 0 0 [.ref h, .int (q66.2 0 11)] (mW h ad ct (u2 q66.2 0 7 q66.1)) (some (.int q78.1)) (mW h ad ct q78.2) := by rw [eq78]; exact k_X7_pass l D ct z h ad (q66.2 0 11) (u2 q66.2 0 7 q66.1) (show 0 ≤ Int32.toInt (q66.2 0 32) ∧ Int32.toInt (q66.2 0 32) < 220 by omega)
  refine kV1 (As := [.int (q66.2 0 11)]) (rest := [.ref h]) ⟨hx, hb, hml, hown, hts⟩ hM gX7_passAll_X7_pass kyX7_pass (by rw [hRf, hRl]; exact ⟨Nat.le_of_ble_eq_true rfl, Nat.le_of_ble_eq_true rfl⟩) hK hP hD hS hA 0 (mO h ad ct (u2 q66.2 0 7 q66.1)) rfl rfl rfl hl.1 rfl (st1 := [.int q78.1, .ref h]) rfl rfl ⟨Nat.zero_le _, Nat.zero_le _⟩ dX7_passAll_78 (fun H locs hP hD hS => ?_)
  refine kPut (ci := 6) (C := RX7) (T := TX7) (N := 34) (ty := .int) (v := .int q78.1) (W1 := mW h ad ct (u2 q78.2 0 11 q78.1)) hx hb hts inX7 tyX7 tyX7_ok nmX7 hown hK hP hD hS 0 (mO h ad ct q78.2) rfl 11 (by decide) hw7 (fun _ h => h) rfl (by decide +kernel) rfl rfl (mLn 11 ad q78.2 (by decide)) (mS_11 h ad ct q78.2 q78.1) dX7_passAll_81 (fun H locs hP hD hS => ?_)
  refine lv_aload_n hx hb dX7_passAll_84 rfl (lv_at hl 0 rfl) ?_
  refine lv_aload_n hx hb dX7_passAll_85 rfl (lv_at hl 0 rfl) ?_
  refine va_get (D := D) (cl := vwCl) (ci := 6) (v := .ref (ad 0)) (C := RX7) (T := TX7) (N := 34) hx hb hts inX7 hown hK.1 hP 0 (mO h ad ct (u2 q78.2 0 11 q78.1)) rfl 0 (by decide) hw8 (fun _ h => h) (mF_0 ad (u2 q78.2 0 11 q78.1)) dX7_passAll_86 ?_
  refine lv_bipush (v := (64 : Int32)) hx hb dX7_passAll_89 (by decide) ?_
  obtain ⟨q91, eq91⟩ : ∃ y, y = f_X7_passRow_1 (64 : Int32) (u2 q78.2 0 11 q78.1) := ⟨_, rfl⟩
  have hf := kLt hf eq91
  have g91 : Int32.toInt (q91 0 32) = Int32.toInt (q78.2 0 32) + 64 := by rw [eq91]; exact passRow_1_at _ (show 0 ≤ Int32.toInt (q78.2 0 32) ∧ Int32.toInt (q78.2 0 32) + 64 ≤ 220 by omega)
  have hM : kC l D ct z yX7_passRow wsX7_passRow 1 22 [.ref h, .ref (ad 0), .int (64 : Int32)] (mW h ad ct (u2 q78.2 0 11 q78.1)) (none) (mW h ad ct q91) := by rw [eq91]; exact k_X7_passRow_1 l D ct z h ad (64 : Int32) (u2 q78.2 0 11 q78.1) (show 0 ≤ Int32.toInt (q78.2 0 32) ∧ Int32.toInt (q78.2 0 32) + Int32.toInt (64 : Int32) ≤ 220 by omega) (by omega)
  refine kV1 (As := [.ref (ad 0), .int (64 : Int32)]) (rest := []) ⟨hx, hb, hml, hown, hts⟩ hM gX7_passAll_X7_passRow kyX7_passRow (by rw [hRf, hRl]; exact ⟨Nat.le_of_ble_eq_true rfl, Nat.le_of_ble_eq_true rfl⟩) hK hP hD hS hA 0 (mO h ad ct (u2 q78.2 0 11 q78.1)) rfl rfl rfl hl.1 rfl (st1 := []) rfl rfl ⟨Nat.zero_le _, Nat.zero_le _⟩ dX7_passAll_91 (fun H locs hP hD hS => ?_)
  refine lv_aload_n hx hb dX7_passAll_94 rfl (lv_at hl 0 rfl) ?_
  refine lv_aload_n hx hb dX7_passAll_95 rfl (lv_at hl 0 rfl) ?_
  refine va_get (D := D) (cl := vwCl) (ci := 6) (v := .ref (ad 3)) (C := RX7) (T := TX7) (N := 34) hx hb hts inX7 hown hK.1 hP 0 (mO h ad ct q91) rfl 3 (by decide) hw9 (fun _ h => h) (mF_3 ad q91) dX7_passAll_96 ?_
  refine lv_bipush (v := (6 : Int32)) hx hb dX7_passAll_99 (by decide) ?_
  obtain ⟨q101, eq101⟩ : ∃ y, y = f_X7_passRow_2 (6 : Int32) q91 := ⟨_, rfl⟩
  have hf := kLt hf eq101
  have g101 : Int32.toInt (q101 0 32) = Int32.toInt (q91 0 32) + 6 := by rw [eq101]; exact passRow_2_at _ (show 0 ≤ Int32.toInt (q91 0 32) ∧ Int32.toInt (q91 0 32) + 6 ≤ 220 by omega)
  have hM : kC l D ct z yX7_passRow wsX7_passRow 1 22 [.ref h, .ref (ad 3), .int (6 : Int32)] (mW h ad ct q91) (none) (mW h ad ct q101) := by rw [eq101]; exact k_X7_passRow_2 l D ct z h ad (6 : Int32) q91 (show 0 ≤ Int32.toInt (q91 0 32) ∧ Int32.toInt (q91 0 32) + Int32.toInt (6 : Int32) ≤ 220 by omega) (by omega)
  refine kV1 (As := [.ref (ad 3), .int (6 : Int32)]) (rest := []) ⟨hx, hb, hml, hown, hts⟩ hM gX7_passAll_X7_passRow kyX7_passRow (by rw [hRf, hRl]; exact ⟨Nat.le_of_ble_eq_true rfl, Nat.le_of_ble_eq_true rfl⟩) hK hP hD hS hA 0 (mO h ad ct q91) rfl rfl rfl hl.1 rfl (st1 := []) rfl rfl ⟨Nat.zero_le _, Nat.zero_le _⟩ dX7_passAll_101 (fun H locs hP hD hS => ?_)
  refine lv_aload_n hx hb dX7_passAll_104 rfl (lv_at hl 0 rfl) ?_
  refine lv_aload_n hx hb dX7_passAll_105 rfl (lv_at hl 0 rfl) ?_
  refine va_get (D := D) (cl := vwCl) (ci := 6) (v := .ref (ad 8)) (C := RX7) (T := TX7) (N := 34) hx hb hts inX7 hown hK.1 hP 0 (mO h ad ct q101) rfl 8 (by decide) hw10 (fun _ h => h) (mF_8 ad q101) dX7_passAll_106 ?_
  refine lv_bipush (v := (8 : Int32)) hx hb dX7_passAll_109 (by decide) ?_
  obtain ⟨q111, eq111⟩ : ∃ y, y = f_X7_passRow_3 (8 : Int32) q101 := ⟨_, rfl⟩
  have hf := kLt hf eq111
  have g111 : Int32.toInt (q111 0 32) = Int32.toInt (q101 0 32) + 8 := by rw [eq111]; exact passRow_3_at _ (show 0 ≤ Int32.toInt (q101 0 32) ∧ Int32.toInt (q101 0 32) + 8 ≤ 220 by omega)
  have hM : kC l D ct z yX7_passRow wsX7_passRow 1 22 [.ref h, .ref (ad 8), .int (8 : Int32)] (mW h ad ct q101) (none) (mW h ad ct q111) := by rw [eq111]; exact k_X7_passRow_3 l D ct z h ad (8 : Int32) q101 (show 0 ≤ Int32.toInt (q101 0 32) ∧ Int32.toInt (q101 0 32) + Int32.toInt (8 : Int32) ≤ 220 by omega) (by omega)
  refine kV1 (As := [.ref (ad 8), .int (8 : Int32)]) (rest := []) ⟨hx, hb, hml, hown, hts⟩ hM gX7_passAll_X7_passRow kyX7_passRow (by rw [hRf, hRl]; exact ⟨Nat.le_of_ble_eq_true rfl, Nat.le_of_ble_eq_true rfl⟩) hK hP hD hS hA 0 (mO h ad ct q101) rfl rfl rfl hl.1 rfl (st1 := []) rfl rfl ⟨Nat.zero_le _, Nat.zero_le _⟩ dX7_passAll_111 (fun H locs hP hD hS => ?_)
  refine lv_aload_n hx hb dX7_passAll_114 rfl (lv_at hl 0 rfl) ?_
  refine lv_aload_n hx hb dX7_passAll_115 rfl (lv_at hl 0 rfl) ?_
  refine va_get (D := D) (cl := vwCl) (ci := 6) (v := .ref (ad 9)) (C := RX7) (T := TX7) (N := 34) hx hb hts inX7 hown hK.1 hP 0 (mO h ad ct q111) rfl 9 (by decide) hw11 (fun _ h => h) (mF_9 ad q111) dX7_passAll_116 ?_
  refine lv_bipush (v := (8 : Int32)) hx hb dX7_passAll_119 (by decide) ?_
  obtain ⟨q121, eq121⟩ : ∃ y, y = f_X7_passRow_4 (8 : Int32) q111 := ⟨_, rfl⟩
  have hf := kLt hf eq121
  have g121 : Int32.toInt (q121 0 32) = Int32.toInt (q111 0 32) + 8 := by rw [eq121]; exact passRow_4_at _ (show 0 ≤ Int32.toInt (q111 0 32) ∧ Int32.toInt (q111 0 32) + 8 ≤ 220 by omega)
  have hM : kC l D ct z yX7_passRow wsX7_passRow 1 22 [.ref h, .ref (ad 9), .int (8 : Int32)] (mW h ad ct q111) (none) (mW h ad ct q121) := by rw [eq121]; exact k_X7_passRow_4 l D ct z h ad (8 : Int32) q111 (show 0 ≤ Int32.toInt (q111 0 32) ∧ Int32.toInt (q111 0 32) + Int32.toInt (8 : Int32) ≤ 220 by omega) (by omega)
  refine kV1 (As := [.ref (ad 9), .int (8 : Int32)]) (rest := []) ⟨hx, hb, hml, hown, hts⟩ hM gX7_passAll_X7_passRow kyX7_passRow (by rw [hRf, hRl]; exact ⟨Nat.le_of_ble_eq_true rfl, Nat.le_of_ble_eq_true rfl⟩) hK hP hD hS hA 0 (mO h ad ct q111) rfl rfl rfl hl.1 rfl (st1 := []) rfl rfl ⟨Nat.zero_le _, Nat.zero_le _⟩ dX7_passAll_121 (fun H locs hP hD hS => ?_)
  refine lv_aload_n hx hb dX7_passAll_124 rfl (lv_at hl 0 rfl) ?_
  refine lv_aload_n hx hb dX7_passAll_125 rfl (lv_at hl 0 rfl) ?_
  refine va_get (D := D) (cl := vwCl) (ci := 6) (v := .ref (ad 10)) (C := RX7) (T := TX7) (N := 34) hx hb hts inX7 hown hK.1 hP 0 (mO h ad ct q121) rfl 10 (by decide) hw12 (fun _ h => h) (mF_10 ad q121) dX7_passAll_126 ?_
  refine lv_bipush (v := (8 : Int32)) hx hb dX7_passAll_129 (by decide) ?_
  obtain ⟨q131, eq131⟩ : ∃ y, y = f_X7_passRow_5 (8 : Int32) q121 := ⟨_, rfl⟩
  have hf := kLt hf eq131
  have g131 : Int32.toInt (q131 0 32) = Int32.toInt (q121 0 32) + 8 := by rw [eq131]; exact passRow_5_at _ (show 0 ≤ Int32.toInt (q121 0 32) ∧ Int32.toInt (q121 0 32) + 8 ≤ 220 by omega)
  have hM : kC l D ct z yX7_passRow wsX7_passRow 1 22 [.ref h, .ref (ad 10), .int (8 : Int32)] (mW h ad ct q121) (none) (mW h ad ct q131) := by rw [eq131]; exact k_X7_passRow_5 l D ct z h ad (8 : Int32) q121 (show 0 ≤ Int32.toInt (q121 0 32) ∧ Int32.toInt (q121 0 32) + Int32.toInt (8 : Int32) ≤ 220 by omega) (by omega)
  refine kV1 (As := [.ref (ad 10), .int (8 : Int32)]) (rest := []) ⟨hx, hb, hml, hown, hts⟩ hM gX7_passAll_X7_passRow kyX7_passRow (by rw [hRf, hRl]; exact ⟨Nat.le_of_ble_eq_true rfl, Nat.le_of_ble_eq_true rfl⟩) hK hP hD hS hA 0 (mO h ad ct q121) rfl rfl rfl hl.1 rfl (st1 := []) rfl rfl ⟨Nat.zero_le _, Nat.zero_le _⟩ dX7_passAll_131 (fun H locs hP hD hS => ?_)
  exact kRetV hx hb hr hlk hP hD hS ((congrArg (fun q => mW h ad ct q) hf).symm) hQ dX7_passAll_134
theorem kyX7_image : kY yX7_image cX7_image 2 (some .int) wsX7_image wsX7_image.tail 1 := ⟨rfl, by decide, by decide, by decide +kernel⟩
set_option maxHeartbeats 4000000 in
set_option maxRecDepth 100000 in
theorem k_X7_image (l : Launch) (D : va_G) (ct : ClassId × ClassId × ClassId) (z : Nat × Nat) (h : Nat) (ad : Nat → Nat) (x1 : Int32) (st : Nat → Nat → Int32)  : kC l D ct z yX7_image wsX7_image 3 65 [.ref h, .int x1] (mW h ad ct st) (some (.int ((f_X7_image x1 st).1))) (mW h ad ct ((f_X7_image x1 st).2)) := by
  refine kHead (cc := cX7_image) (maxL := 2) (ret := (some .int)) [(0, .ref h), (1, .int x1)] (by decide) rfl (Nat.le_of_ble_eq_true rfl) rfl ?_
  intro p e s m args below meth c A ls R Q hRf hRl hQ hx hb hr hlk hml hown hts hA hS hK hP hD hl
  have inX7 : ∀ w ∈ wsX70, w ∈ wsX7_image := fun w h => (List.mem_cons_of_mem _ (List.mem_append_right _ h))
  have hw1 := hts (Cond.fieldLink RX7 304 "MastPulpitsModel" "keptAt" "I") (List.mem_of_getElem? (i := 1) (by decide +kernel))
  have hw2 := hts (Cond.fieldLink RX7 300 "MastPulpitsModel" "isWriting" "Z") (List.mem_of_getElem? (i := 2) (by decide +kernel))
  have hw3 := hts (Cond.fieldLink RX7 56 "MastPulpitsModel" "isKept" "[Z") (List.mem_of_getElem? (i := 3) (by decide +kernel))
  have kcm2 : (-2 : Int32).toInt = -2 := by decide
  have kc0 : (0 : Int32).toInt = 0 := by decide
  have kc1 : (1 : Int32).toInt = 1 := by decide
  have kc110 : (110 : Int32).toInt = 110 := by decide
  have kl0 : (0 : Int64).toInt = 0 := by decide
  have kl1 : (1 : Int64).toInt = 1 := by decide
  have hf : f_X7_image x1 st = f_X7_image x1 st := rfl
  refine lv_iload_n hx hb dX7_image_0 rfl (lv_at hl 1 rfl) ?_
  refine lv_i2l (v := (Int32.toInt64 x1)) hx hb dX7_image_1 rfl ?_
  refine lv_lconst (v := (0 : Int64)) hx hb dX7_image_2 (by decide) ?_
  refine lv_lconst (v := (1 : Int64)) hx hb dX7_image_3 (by decide) ?_
  have hM : kC l D ct z yX7_in wsX7_in 0 0 [.long (Int32.toInt64 x1), .long (0 : Int64), .long (1 : Int64)] ([]) (some (.int (f_X7_in (Int32.toInt64 x1) (0 : Int64) (1 : Int64)))) ([]) := k_X7_in l D ct z (Int32.toInt64 x1) (0 : Int64) (1 : Int64)
  refine kS0 (As := [.long (Int32.toInt64 x1), .long (0 : Int64), .long (1 : Int64)]) (rest := []) ⟨hx, hb, hml, hown, hts⟩ hM gX7_image_X7_in kyX7_in (by rw [hRf, hRl]; exact ⟨Nat.le_of_ble_eq_true rfl, Nat.le_of_ble_eq_true rfl⟩) hK hP hD hS hA rfl hl.1 rfl (st1 := [.int (f_X7_in (Int32.toInt64 x1) (0 : Int64) (1 : Int64))]) rfl rfl ⟨Nat.zero_le _, Nat.zero_le _⟩ dX7_image_4 (fun H locs hP hD hS => ?_)
  refine lv_if_ne (tgt := 13) hx hb dX7_image_7 (by decide) (fun c_1 => ?_) (fun c_1 => ?_)
  · have hf := kIf hf c_1
    have t_1 := ti_ne c_1; have w_1 := in_nz c_1
    refine lv_aload_n hx hb dX7_image_13 rfl (lv_at hl 0 rfl) ?_
    refine lv_bipush (v := (110 : Int32)) hx hb dX7_image_14 (by decide) ?_
    refine lv_iload_n hx hb dX7_image_16 rfl (lv_at hl 1 rfl) ?_
    refine lv_imul hx hb dX7_image_17 ?_
    refine lv_topi (fun y18 ey18 => ?_)
    have hf := kLt hf ey18
    have a18 : Int32.toInt y18 = 110 * Int32.toInt x1 := by rw [ey18]; exact ti_mul (by rw [kc110]) (by omega) (by omega)
    refine kPut (ci := 6) (C := RX7) (T := TX7) (N := 34) (ty := .int) (v := .int y18) (W1 := mW h ad ct (u2 st 0 32 y18)) hx hb hts inX7 tyX7 tyX7_ok nmX7 hown hK hP hD hS 0 (mO h ad ct st) rfl 32 (by decide) hw1 (fun _ h => h) rfl (by decide +kernel) rfl rfl (mLn 32 ad st (by decide)) (mS_32 h ad ct st y18) dX7_image_18 (fun H locs hP hD hS => ?_)
    refine lv_aload_n hx hb dX7_image_21 rfl (lv_at hl 0 rfl) ?_
    refine lv_iconst (v := (1 : Int32)) hx hb dX7_image_22 (by decide) ?_
    refine kPut (ci := 6) (C := RX7) (T := TX7) (N := 34) (ty := .boolean) (v := .int (1 : Int32)) (W1 := mW h ad ct (u2 (u2 st 0 32 y18) 0 33 (1 : Int32))) hx hb hts inX7 tyX7 tyX7_ok nmX7 hown hK hP hD hS 0 (mO h ad ct (u2 st 0 32 y18)) rfl 33 (by decide) hw2 (fun _ h => h) rfl (by decide +kernel) rfl rfl (mLn 33 ad (u2 st 0 32 y18) (by decide)) (mS_33 h ad ct (u2 st 0 32 y18) (1 : Int32)) dX7_image_23 (fun H locs hP hD hS => ?_)
    refine lv_aload_n hx hb dX7_image_26 rfl (lv_at hl 0 rfl) ?_
    obtain ⟨q27, eq27⟩ : ∃ y, y = f_X7_passAll (u2 (u2 st 0 32 y18) 0 33 (1 : Int32)) := ⟨_, rfl⟩
    have hf := kLt hf eq27
    have hM : kC l D ct z yX7_passAll wsX7_passAll 2 45 [.ref h] (mW h ad ct (u2 (u2 st 0 32 y18) 0 33 (1 : Int32))) (none) (mW h ad ct q27) := by rw [eq27]; exact k_X7_passAll l D ct z h ad (u2 (u2 st 0 32 y18) 0 33 (1 : Int32)) (show 0 ≤ Int32.toInt y18 ∧ Int32.toInt y18 ≤ 110 by omega)
    refine kV1 (As := []) (rest := []) ⟨hx, hb, hml, hown, hts⟩ hM gX7_image_X7_passAll kyX7_passAll (by rw [hRf, hRl]; exact ⟨Nat.le_of_ble_eq_true rfl, Nat.le_of_ble_eq_true rfl⟩) hK hP hD hS hA 0 (mO h ad ct (u2 (u2 st 0 32 y18) 0 33 (1 : Int32))) rfl rfl rfl hl.1 rfl (st1 := []) rfl rfl ⟨Nat.zero_le _, Nat.zero_le _⟩ dX7_image_27 (fun H locs hP hD hS => ?_)
    refine lv_aload_n hx hb dX7_image_30 rfl (lv_at hl 0 rfl) ?_
    refine va_get (D := D) (cl := vwCl) (ci := 6) (v := .ref (ad 31)) (C := RX7) (T := TX7) (N := 34) hx hb hts inX7 hown hK.1 hP 0 (mO h ad ct q27) rfl 31 (by decide) hw3 (fun _ h => h) (mF_31 ad q27) dX7_image_31 ?_
    refine lv_iload_n hx hb dX7_image_34 rfl (lv_at hl 1 rfl) ?_
    refine lv_iconst (v := (1 : Int32)) hx hb dX7_image_35 (by decide) ?_
    refine kZast (W1 := mW h ad ct (u2 q27 32 ((Int32.toNatClampNeg x1)) (1 : Int32))) hx hb hK hP hD hS 16 (mA_31 h ad ct q27) (Or.inr rfl) (by first | assumption | exact vin (by omega) (by omega) | omega) (mB_31 h ad ct q27 _ _) dX7_image_36 (fun H locs hP hD hS => ?_)
    refine lv_iconst (v := (1 : Int32)) hx hb dX7_image_37 (by decide) ?_
    exact kRetI hx hb hr hlk hP hD hS (kfst hf) ((congrArg (fun q => mW h ad ct q.2) hf).symm) hQ dX7_image_38
  · have hf := kIt hf c_1
    have t_1 := ti_eq c_1
    refine lv_bipush (v := (-2 : Int32)) hx hb dX7_image_10 (by decide) ?_
    exact kRetI hx hb hr hlk hP hD hS (kfst hf) ((congrArg (fun q => mW h ad ct q.2) hf).symm) hQ dX7_image_12
theorem kyX7_restore : kY yX7_restore cX7_restore 2 (some .int) wsX7_restore wsX7_restore.tail 1 := ⟨rfl, by decide, by decide, by decide +kernel⟩
set_option maxHeartbeats 4000000 in
set_option maxRecDepth 100000 in
theorem k_X7_restore (l : Launch) (D : va_G) (ct : ClassId × ClassId × ClassId) (z : Nat × Nat) (h : Nat) (ad : Nat → Nat) (x1 : Int32) (st : Nat → Nat → Int32)  : kC l D ct z yX7_restore wsX7_restore 3 65 [.ref h, .int x1] (mW h ad ct st) (some (.int ((f_X7_restore x1 st).1))) (mW h ad ct ((f_X7_restore x1 st).2)) := by
  refine kHead (cc := cX7_restore) (maxL := 2) (ret := (some .int)) [(0, .ref h), (1, .int x1)] (by decide) rfl (Nat.le_of_ble_eq_true rfl) rfl ?_
  intro p e s m args below meth c A ls R Q hRf hRl hQ hx hb hr hlk hml hown hts hA hS hK hP hD hl
  have inX7 : ∀ w ∈ wsX70, w ∈ wsX7_restore := fun w h => (List.mem_cons_of_mem _ (List.mem_append_right _ h))
  have hw1 := hts (Cond.fieldLink RX7 56 "MastPulpitsModel" "isKept" "[Z") (List.mem_of_getElem? (i := 1) (by decide +kernel))
  have hw2 := hts (Cond.fieldLink RX7 304 "MastPulpitsModel" "keptAt" "I") (List.mem_of_getElem? (i := 2) (by decide +kernel))
  have hw3 := hts (Cond.fieldLink RX7 300 "MastPulpitsModel" "isWriting" "Z") (List.mem_of_getElem? (i := 3) (by decide +kernel))
  have kcm3 : (-3 : Int32).toInt = -3 := by decide
  have kcm2 : (-2 : Int32).toInt = -2 := by decide
  have kc0 : (0 : Int32).toInt = 0 := by decide
  have kc1 : (1 : Int32).toInt = 1 := by decide
  have kc110 : (110 : Int32).toInt = 110 := by decide
  have kl0 : (0 : Int64).toInt = 0 := by decide
  have kl1 : (1 : Int64).toInt = 1 := by decide
  have hf : f_X7_restore x1 st = f_X7_restore x1 st := rfl
  refine lv_iload_n hx hb dX7_restore_0 rfl (lv_at hl 1 rfl) ?_
  refine lv_i2l (v := (Int32.toInt64 x1)) hx hb dX7_restore_1 rfl ?_
  refine lv_lconst (v := (0 : Int64)) hx hb dX7_restore_2 (by decide) ?_
  refine lv_lconst (v := (1 : Int64)) hx hb dX7_restore_3 (by decide) ?_
  have hM : kC l D ct z yX7_in wsX7_in 0 0 [.long (Int32.toInt64 x1), .long (0 : Int64), .long (1 : Int64)] ([]) (some (.int (f_X7_in (Int32.toInt64 x1) (0 : Int64) (1 : Int64)))) ([]) := k_X7_in l D ct z (Int32.toInt64 x1) (0 : Int64) (1 : Int64)
  refine kS0 (As := [.long (Int32.toInt64 x1), .long (0 : Int64), .long (1 : Int64)]) (rest := []) ⟨hx, hb, hml, hown, hts⟩ hM gX7_restore_X7_in kyX7_in (by rw [hRf, hRl]; exact ⟨Nat.le_of_ble_eq_true rfl, Nat.le_of_ble_eq_true rfl⟩) hK hP hD hS hA rfl hl.1 rfl (st1 := [.int (f_X7_in (Int32.toInt64 x1) (0 : Int64) (1 : Int64))]) rfl rfl ⟨Nat.zero_le _, Nat.zero_le _⟩ dX7_restore_4 (fun H locs hP hD hS => ?_)
  refine lv_if_ne (tgt := 13) hx hb dX7_restore_7 (by decide) (fun c_1 => ?_) (fun c_1 => ?_)
  · have hf := kIf hf c_1
    have t_1 := ti_ne c_1; have w_1 := in_nz c_1
    refine lv_aload_n hx hb dX7_restore_13 rfl (lv_at hl 0 rfl) ?_
    refine va_get (D := D) (cl := vwCl) (ci := 6) (v := .ref (ad 31)) (C := RX7) (T := TX7) (N := 34) hx hb hts inX7 hown hK.1 hP 0 (mO h ad ct st) rfl 31 (by decide) hw1 (fun _ h => h) (mF_31 ad st) dX7_restore_14 ?_
    refine lv_iload_n hx hb dX7_restore_17 rfl (lv_at hl 1 rfl) ?_
    refine va_zald hx hb hK.1 hP 16 1 (mA_31 h ad ct st) rfl (by first | assumption | exact vin (by omega) (by omega) | omega) dX7_restore_18 ?_
    refine lv_if_ne (tgt := 25) hx hb dX7_restore_19 (by decide) (fun c_2 => ?_) (fun c_2 => ?_)
    · have hf := kIf hf c_2
      have t_2 := ti_ne c_2
      refine lv_aload_n hx hb dX7_restore_25 rfl (lv_at hl 0 rfl) ?_
      refine lv_bipush (v := (110 : Int32)) hx hb dX7_restore_26 (by decide) ?_
      refine lv_iload_n hx hb dX7_restore_28 rfl (lv_at hl 1 rfl) ?_
      refine lv_imul hx hb dX7_restore_29 ?_
      refine lv_topi (fun y30 ey30 => ?_)
      have hf := kLt hf ey30
      have a30 : Int32.toInt y30 = 110 * Int32.toInt x1 := by rw [ey30]; exact ti_mul (by rw [kc110]) (by omega) (by omega)
      refine kPut (ci := 6) (C := RX7) (T := TX7) (N := 34) (ty := .int) (v := .int y30) (W1 := mW h ad ct (u2 st 0 32 y30)) hx hb hts inX7 tyX7 tyX7_ok nmX7 hown hK hP hD hS 0 (mO h ad ct st) rfl 32 (by decide) hw2 (fun _ h => h) rfl (by decide +kernel) rfl rfl (mLn 32 ad st (by decide)) (mS_32 h ad ct st y30) dX7_restore_30 (fun H locs hP hD hS => ?_)
      refine lv_aload_n hx hb dX7_restore_33 rfl (lv_at hl 0 rfl) ?_
      refine lv_iconst (v := (0 : Int32)) hx hb dX7_restore_34 (by decide) ?_
      refine kPut (ci := 6) (C := RX7) (T := TX7) (N := 34) (ty := .boolean) (v := .int (0 : Int32)) (W1 := mW h ad ct (u2 (u2 st 0 32 y30) 0 33 (0 : Int32))) hx hb hts inX7 tyX7 tyX7_ok nmX7 hown hK hP hD hS 0 (mO h ad ct (u2 st 0 32 y30)) rfl 33 (by decide) hw3 (fun _ h => h) rfl (by decide +kernel) rfl rfl (mLn 33 ad (u2 st 0 32 y30) (by decide)) (mS_33 h ad ct (u2 st 0 32 y30) (0 : Int32)) dX7_restore_35 (fun H locs hP hD hS => ?_)
      refine lv_aload_n hx hb dX7_restore_38 rfl (lv_at hl 0 rfl) ?_
      obtain ⟨q39, eq39⟩ : ∃ y, y = f_X7_passAll (u2 (u2 st 0 32 y30) 0 33 (0 : Int32)) := ⟨_, rfl⟩
      have hf := kLt hf eq39
      have hM : kC l D ct z yX7_passAll wsX7_passAll 2 45 [.ref h] (mW h ad ct (u2 (u2 st 0 32 y30) 0 33 (0 : Int32))) (none) (mW h ad ct q39) := by rw [eq39]; exact k_X7_passAll l D ct z h ad (u2 (u2 st 0 32 y30) 0 33 (0 : Int32)) (show 0 ≤ Int32.toInt y30 ∧ Int32.toInt y30 ≤ 110 by omega)
      refine kV1 (As := []) (rest := []) ⟨hx, hb, hml, hown, hts⟩ hM gX7_restore_X7_passAll kyX7_passAll (by rw [hRf, hRl]; exact ⟨Nat.le_of_ble_eq_true rfl, Nat.le_of_ble_eq_true rfl⟩) hK hP hD hS hA 0 (mO h ad ct (u2 (u2 st 0 32 y30) 0 33 (0 : Int32))) rfl rfl rfl hl.1 rfl (st1 := []) rfl rfl ⟨Nat.zero_le _, Nat.zero_le _⟩ dX7_restore_39 (fun H locs hP hD hS => ?_)
      refine lv_iconst (v := (1 : Int32)) hx hb dX7_restore_42 (by decide) ?_
      exact kRetI hx hb hr hlk hP hD hS (kfst hf) ((congrArg (fun q => mW h ad ct q.2) hf).symm) hQ dX7_restore_43
    · have hf := kIt hf c_2
      have t_2 := ti_eq c_2
      refine lv_bipush (v := (-3 : Int32)) hx hb dX7_restore_22 (by decide) ?_
      exact kRetI hx hb hr hlk hP hD hS (kfst hf) ((congrArg (fun q => mW h ad ct q.2) hf).symm) hQ dX7_restore_24
  · have hf := kIt hf c_1
    have t_1 := ti_eq c_1
    refine lv_bipush (v := (-2 : Int32)) hx hb dX7_restore_10 (by decide) ?_
    exact kRetI hx hb hr hlk hP hD hS (kfst hf) ((congrArg (fun q => mW h ad ct q.2) hf).symm) hQ dX7_restore_12
theorem kyX7_told : kY yX7_told cX7_told 2 (some .int) wsX7_told wsX7_told.tail 1 := ⟨rfl, by decide, by decide, by decide +kernel⟩
set_option maxHeartbeats 4000000 in
set_option maxRecDepth 100000 in
theorem k_X7_told (l : Launch) (D : va_G) (ct : ClassId × ClassId × ClassId) (z : Nat × Nat) (h : Nat) (ad : Nat → Nat) (x1 : Int32) (st : Nat → Nat → Int32)  : kC l D ct z yX7_told wsX7_told 1 25 [.ref h, .int x1] (mW h ad ct st) (some (.int (f_X7_told x1 st))) (mW h ad ct st) := by
  refine kHead (cc := cX7_told) (maxL := 2) (ret := (some .int)) [(0, .ref h), (1, .int x1)] (by decide) rfl (Nat.le_of_ble_eq_true rfl) rfl ?_
  intro p e s m args below meth c A ls R Q hRf hRl hQ hx hb hr hlk hml hown hts hA hS hK hP hD hl
  have inX7 : ∀ w ∈ wsX70, w ∈ wsX7_told := fun w h => (List.mem_cons_of_mem _ (List.mem_append_right _ h))
  have hw1 := hts (Cond.constantLong RX7 317 (100)) (List.mem_of_getElem? (i := 1) (by decide +kernel))
  have hw2 := hts (Cond.constantLong RX7 319 (163)) (List.mem_of_getElem? (i := 2) (by decide +kernel))
  have hw3 := hts (Cond.fieldLink RX7 7 "MastPulpitsModel" "ground" "[I") (List.mem_of_getElem? (i := 3) (by decide +kernel))
  have hw4 := hts (Cond.constantLong RX7 277 (10)) (List.mem_of_getElem? (i := 4) (by decide +kernel))
  have hw5 := hts (Cond.constantLong RX7 321 (15)) (List.mem_of_getElem? (i := 5) (by decide +kernel))
  have hw6 := hts (Cond.fieldLink RX7 13 "MastPulpitsModel" "eyes" "[I") (List.mem_of_getElem? (i := 6) (by decide +kernel))
  have hw7 := hts (Cond.fieldLink RX7 111 "MastPulpitsModel" "padMany" "I") (List.mem_of_getElem? (i := 7) (by decide +kernel))
  have hw8 := hts (Cond.fieldLink RX7 143 "MastPulpitsModel" "hour" "I") (List.mem_of_getElem? (i := 8) (by decide +kernel))
  have hw9 := hts (Cond.fieldLink RX7 253 "MastPulpitsModel" "sights" "I") (List.mem_of_getElem? (i := 9) (by decide +kernel))
  have hw10 := hts (Cond.constantLong RX7 208 (2)) (List.mem_of_getElem? (i := 10) (by decide +kernel))
  have hw11 := hts (Cond.constantLong RX7 323 (6)) (List.mem_of_getElem? (i := 11) (by decide +kernel))
  have kcm2 : (-2 : Int32).toInt = -2 := by decide
  have kc0 : (0 : Int32).toInt = 0 := by decide
  have kc2 : (2 : Int32).toInt = 2 := by decide
  have kc10 : (10 : Int32).toInt = 10 := by decide
  have kc100 : (100 : Int32).toInt = 100 := by decide
  have kl2 : (2 : Int64).toInt = 2 := by decide
  have kl6 : (6 : Int64).toInt = 6 := by decide
  have kl10 : (10 : Int64).toInt = 10 := by decide
  have kl15 : (15 : Int64).toInt = 15 := by decide
  have kl100 : (100 : Int64).toInt = 100 := by decide
  have kl163 : (163 : Int64).toInt = 163 := by decide
  have hf : f_X7_told x1 st = f_X7_told x1 st := rfl
  refine lv_iload_n hx hb dX7_told_0 rfl (lv_at hl 1 rfl) ?_
  refine lv_i2l (v := (Int32.toInt64 x1)) hx hb dX7_told_1 rfl ?_
  refine lv_ldc2 (v := (100 : Int64)) hx hb hown hw1 dX7_told_2 ?_
  refine lv_ldc2 (v := (163 : Int64)) hx hb hown hw2 dX7_told_5 ?_
  have hM : kC l D ct z yX7_in wsX7_in 0 0 [.long (Int32.toInt64 x1), .long (100 : Int64), .long (163 : Int64)] ([]) (some (.int (f_X7_in (Int32.toInt64 x1) (100 : Int64) (163 : Int64)))) ([]) := k_X7_in l D ct z (Int32.toInt64 x1) (100 : Int64) (163 : Int64)
  refine kS0 (As := [.long (Int32.toInt64 x1), .long (100 : Int64), .long (163 : Int64)]) (rest := []) ⟨hx, hb, hml, hown, hts⟩ hM gX7_told_X7_in kyX7_in (by rw [hRf, hRl]; exact ⟨Nat.le_of_ble_eq_true rfl, Nat.le_of_ble_eq_true rfl⟩) hK hP hD hS hA rfl hl.1 rfl (st1 := [.int (f_X7_in (Int32.toInt64 x1) (100 : Int64) (163 : Int64))]) rfl rfl ⟨Nat.zero_le _, Nat.zero_le _⟩ dX7_told_8 (fun H locs hP hD hS => ?_)
  refine lv_if_eq (tgt := 24) hx hb dX7_told_11 (by decide) (fun c_1 => ?_) (fun c_1 => ?_)
  · have hf := kIt hf c_1
    have t_1 := ti_eq c_1
    refine lv_iload_n hx hb dX7_told_24 rfl (lv_at hl 1 rfl) ?_
    refine lv_i2l (v := (Int32.toInt64 x1)) hx hb dX7_told_25 rfl ?_
    refine lv_ldc2 (v := (10 : Int64)) hx hb hown hw4 dX7_told_26 ?_
    refine lv_ldc2 (v := (15 : Int64)) hx hb hown hw5 dX7_told_29 ?_
    have hM : kC l D ct z yX7_in wsX7_in 0 0 [.long (Int32.toInt64 x1), .long (10 : Int64), .long (15 : Int64)] ([]) (some (.int (f_X7_in (Int32.toInt64 x1) (10 : Int64) (15 : Int64)))) ([]) := k_X7_in l D ct z (Int32.toInt64 x1) (10 : Int64) (15 : Int64)
    refine kS0 (As := [.long (Int32.toInt64 x1), .long (10 : Int64), .long (15 : Int64)]) (rest := []) ⟨hx, hb, hml, hown, hts⟩ hM gX7_told_X7_in kyX7_in (by rw [hRf, hRl]; exact ⟨Nat.le_of_ble_eq_true rfl, Nat.le_of_ble_eq_true rfl⟩) hK hP hD hS hA rfl hl.1 rfl (st1 := [.int (f_X7_in (Int32.toInt64 x1) (10 : Int64) (15 : Int64))]) rfl rfl ⟨Nat.zero_le _, Nat.zero_le _⟩ dX7_told_32 (fun H locs hP hD hS => ?_)
    refine lv_if_eq (tgt := 48) hx hb dX7_told_35 (by decide) (fun c_2 => ?_) (fun c_2 => ?_)
    · have hf := kIt hf c_2
      have t_2 := ti_eq c_2
      refine lv_iload_n hx hb dX7_told_48 rfl (lv_at hl 1 rfl) ?_
      refine kJn hf (fun j0 => ∀ (u0 : Unit), f_X7_told x1 st = j0 () → ∀ (H : Heap) (locs : List Loc) (ls : Array Slot), va_P D vwCl (mW h ad ct st) H → va_D A (mW h ad ct st) → va_S A s.heap H locs → lv_has ls 2 [(0, .ref h), (1, .int x1)] → W p l e R s m args below meth c H locs 0 0 Q (F0 m 120 ls [])) ?_ ?_
      · intro j0 hj0 u0  hf H locs ls hP hD hS hl
        subst hj0
        refine lv_iload_n hx hb dX7_told_120 rfl (lv_at hl 1 rfl) ?_
        refine lv_i2l (v := (Int32.toInt64 x1)) hx hb dX7_told_121 rfl ?_
        refine lv_ldc2 (v := (2 : Int64)) hx hb hown hw10 dX7_told_122 ?_
        refine lv_ldc2 (v := (6 : Int64)) hx hb hown hw11 dX7_told_125 ?_
        have hM : kC l D ct z yX7_in wsX7_in 0 0 [.long (Int32.toInt64 x1), .long (2 : Int64), .long (6 : Int64)] ([]) (some (.int (f_X7_in (Int32.toInt64 x1) (2 : Int64) (6 : Int64)))) ([]) := k_X7_in l D ct z (Int32.toInt64 x1) (2 : Int64) (6 : Int64)
        refine kS0 (As := [.long (Int32.toInt64 x1), .long (2 : Int64), .long (6 : Int64)]) (rest := []) ⟨hx, hb, hml, hown, hts⟩ hM gX7_told_X7_in kyX7_in (by rw [hRf, hRl]; exact ⟨Nat.le_of_ble_eq_true rfl, Nat.le_of_ble_eq_true rfl⟩) hK hP hD hS hA rfl hl.1 rfl (st1 := [.int (f_X7_in (Int32.toInt64 x1) (2 : Int64) (6 : Int64))]) rfl rfl ⟨Nat.zero_le _, Nat.zero_le _⟩ dX7_told_128 (fun H locs hP hD hS => ?_)
        refine lv_if_eq (tgt := 144) hx hb dX7_told_131 (by decide) (fun c_3 => ?_) (fun c_3 => ?_)
        · have hf := kIt hf c_3
          have t_3 := ti_eq c_3
          refine lv_bipush (v := (-2 : Int32)) hx hb dX7_told_144 (by decide) ?_
          exact kRetI hx hb hr hlk hP hD hS hf.symm rfl hQ dX7_told_146
        · have hf := kIf hf c_3
          have t_3 := ti_ne c_3; have w_3 := in_nz c_3
          refine lv_aload_n hx hb dX7_told_134 rfl (lv_at hl 0 rfl) ?_
          refine lv_iload_n hx hb dX7_told_135 rfl (lv_at hl 1 rfl) ?_
          refine lv_iconst (v := (2 : Int32)) hx hb dX7_told_136 (by decide) ?_
          refine lv_isub hx hb dX7_told_137 ?_
          have hM : kC l D ct z yX7_ofShip wsX7_ofShip 0 0 [.ref h, .int (x1 - (2 : Int32))] (mW h ad ct st) (some (.int (f_X7_ofShip (x1 - (2 : Int32)) st))) (mW h ad ct st) := k_X7_ofShip l D ct z h ad (x1 - (2 : Int32)) st
          refine kV1 (As := [.int (x1 - (2 : Int32))]) (rest := []) ⟨hx, hb, hml, hown, hts⟩ hM gX7_told_X7_ofShip kyX7_ofShip (by rw [hRf, hRl]; exact ⟨Nat.le_of_ble_eq_true rfl, Nat.le_of_ble_eq_true rfl⟩) hK hP hD hS hA 0 (mO h ad ct st) rfl rfl rfl hl.1 rfl (st1 := [.int (f_X7_ofShip (x1 - (2 : Int32)) st)]) rfl rfl ⟨Nat.zero_le _, Nat.zero_le _⟩ dX7_told_138 (fun H locs hP hD hS => ?_)
          refine lv_goto (tgt := 146) hx hb dX7_told_141 (by decide) ?_
          exact kRetI hx hb hr hlk hP hD hS hf.symm rfl hQ dX7_told_146
      · intro j120 hJ120 hf
        have kv_4 : (0 : Int32).toInt = 0 := by decide
        refine (Classical.em (x1 = (0 : Int32))).elim (fun c_4 => ?_) (fun c_4 => ?_)
        · have hf := kIt hf c_4
          have t_4 := ti_eq c_4
          refine lv_tableIn (off := 51) (tgt := 100) hx hb dX7_told_49 (by omega) (by omega) (by rw [c_4]; decide) (by decide) ?_
          refine lv_aload_n hx hb dX7_told_100 rfl (lv_at hl 0 rfl) ?_
          refine va_get (D := D) (cl := vwCl) (ci := 6) (v := .int (st 0 13)) (C := RX7) (T := TX7) (N := 34) hx hb hts inX7 hown hK.1 hP 0 (mO h ad ct st) rfl 13 (by decide) hw7 (fun _ h => h) (mF_13 ad st) dX7_told_101 ?_
          exact kRetI hx hb hr hlk hP hD hS hf.symm rfl hQ dX7_told_104
        · have hf := kIf hf c_4
          have t_4 := ti_ne c_4
          have kv_5 : (1 : Int32).toInt = 1 := by decide
          refine (Classical.em (x1 = (1 : Int32))).elim (fun c_5 => ?_) (fun c_5 => ?_)
          · have hf := kIt hf c_5
            have t_5 := ti_eq c_5
            refine lv_tableIn (off := 56) (tgt := 105) hx hb dX7_told_49 (by omega) (by omega) (by rw [c_5]; decide) (by decide) ?_
            refine lv_aload_n hx hb dX7_told_105 rfl (lv_at hl 0 rfl) ?_
            have hM : kC l D ct z yX7_landMany wsX7_landMany 0 0 [.ref h] (mW h ad ct st) (some (.int (f_X7_landMany st))) (mW h ad ct st) := k_X7_landMany l D ct z h ad st
            refine kV1 (As := []) (rest := []) ⟨hx, hb, hml, hown, hts⟩ hM gX7_told_X7_landMany kyX7_landMany (by rw [hRf, hRl]; exact ⟨Nat.le_of_ble_eq_true rfl, Nat.le_of_ble_eq_true rfl⟩) hK hP hD hS hA 0 (mO h ad ct st) rfl rfl rfl hl.1 rfl (st1 := [.int (f_X7_landMany st)]) rfl rfl ⟨Nat.zero_le _, Nat.zero_le _⟩ dX7_told_106 (fun H locs hP hD hS => ?_)
            exact kRetI hx hb hr hlk hP hD hS hf.symm rfl hQ dX7_told_109
          · have hf := kIf hf c_5
            have t_5 := ti_ne c_5
            have kv_6 : (2 : Int32).toInt = 2 := by decide
            refine (Classical.em (x1 = (2 : Int32))).elim (fun c_6 => ?_) (fun c_6 => ?_)
            · have hf := kIt hf c_6
              have t_6 := ti_eq c_6
              refine lv_tableIn (off := 71) (tgt := 120) hx hb dX7_told_49 (by omega) (by omega) (by rw [c_6]; decide) (by decide) ?_
              exact hJ120 ()  hf _ _ _ hP hD hS (lv_sub hl [0, 1] rfl)
            · have hf := kIf hf c_6
              have t_6 := ti_ne c_6
              have kv_7 : (3 : Int32).toInt = 3 := by decide
              refine (Classical.em (x1 = (3 : Int32))).elim (fun c_7 => ?_) (fun c_7 => ?_)
              · have hf := kIt hf c_7
                have t_7 := ti_eq c_7
                refine lv_tableIn (off := 71) (tgt := 120) hx hb dX7_told_49 (by omega) (by omega) (by rw [c_7]; decide) (by decide) ?_
                exact hJ120 ()  hf _ _ _ hP hD hS (lv_sub hl [0, 1] rfl)
              · have hf := kIf hf c_7
                have t_7 := ti_ne c_7
                have kv_8 : (4 : Int32).toInt = 4 := by decide
                refine (Classical.em (x1 = (4 : Int32))).elim (fun c_8 => ?_) (fun c_8 => ?_)
                · have hf := kIt hf c_8
                  have t_8 := ti_eq c_8
                  refine lv_tableIn (off := 71) (tgt := 120) hx hb dX7_told_49 (by omega) (by omega) (by rw [c_8]; decide) (by decide) ?_
                  exact hJ120 ()  hf _ _ _ hP hD hS (lv_sub hl [0, 1] rfl)
                · have hf := kIf hf c_8
                  have t_8 := ti_ne c_8
                  have kv_9 : (5 : Int32).toInt = 5 := by decide
                  refine (Classical.em (x1 = (5 : Int32))).elim (fun c_9 => ?_) (fun c_9 => ?_)
                  · have hf := kIt hf c_9
                    have t_9 := ti_eq c_9
                    refine lv_tableIn (off := 71) (tgt := 120) hx hb dX7_told_49 (by omega) (by omega) (by rw [c_9]; decide) (by decide) ?_
                    exact hJ120 ()  hf _ _ _ hP hD hS (lv_sub hl [0, 1] rfl)
                  · have hf := kIf hf c_9
                    have t_9 := ti_ne c_9
                    have kv_10 : (6 : Int32).toInt = 6 := by decide
                    refine (Classical.em (x1 = (6 : Int32))).elim (fun c_10 => ?_) (fun c_10 => ?_)
                    · have hf := kIt hf c_10
                      have t_10 := ti_eq c_10
                      refine lv_tableIn (off := 71) (tgt := 120) hx hb dX7_told_49 (by omega) (by omega) (by rw [c_10]; decide) (by decide) ?_
                      exact hJ120 ()  hf _ _ _ hP hD hS (lv_sub hl [0, 1] rfl)
                    · have hf := kIf hf c_10
                      have t_10 := ti_ne c_10
                      have kv_11 : (7 : Int32).toInt = 7 := by decide
                      refine (Classical.em (x1 = (7 : Int32))).elim (fun c_11 => ?_) (fun c_11 => ?_)
                      · have hf := kIt hf c_11
                        have t_11 := ti_eq c_11
                        refine lv_tableIn (off := 61) (tgt := 110) hx hb dX7_told_49 (by omega) (by omega) (by rw [c_11]; decide) (by decide) ?_
                        refine lv_aload_n hx hb dX7_told_110 rfl (lv_at hl 0 rfl) ?_
                        refine va_get (D := D) (cl := vwCl) (ci := 6) (v := .int (st 0 7)) (C := RX7) (T := TX7) (N := 34) hx hb hts inX7 hown hK.1 hP 0 (mO h ad ct st) rfl 7 (by decide) hw8 (fun _ h => h) (mF_7 ad st) dX7_told_111 ?_
                        exact kRetI hx hb hr hlk hP hD hS hf.symm rfl hQ dX7_told_114
                      · have hf := kIf hf c_11
                        have t_11 := ti_ne c_11
                        have kv_12 : (8 : Int32).toInt = 8 := by decide
                        refine (Classical.em (x1 = (8 : Int32))).elim (fun c_12 => ?_) (fun c_12 => ?_)
                        · have hf := kIt hf c_12
                          have t_12 := ti_eq c_12
                          refine lv_tableIn (off := 66) (tgt := 115) hx hb dX7_told_49 (by omega) (by omega) (by rw [c_12]; decide) (by decide) ?_
                          refine lv_aload_n hx hb dX7_told_115 rfl (lv_at hl 0 rfl) ?_
                          refine va_get (D := D) (cl := vwCl) (ci := 6) (v := .int (st 0 11)) (C := RX7) (T := TX7) (N := 34) hx hb hts inX7 hown hK.1 hP 0 (mO h ad ct st) rfl 11 (by decide) hw9 (fun _ h => h) (mF_11 ad st) dX7_told_116 ?_
                          exact kRetI hx hb hr hlk hP hD hS hf.symm rfl hQ dX7_told_119
                        · have hf := kIf hf c_12
                          have t_12 := ti_ne c_12
                          refine lv_tableOut (tgt := 120) hx hb dX7_told_49 (by omega) (by decide) ?_
                          exact hJ120 ()  hf _ _ _ hP hD hS (lv_sub hl [0, 1] rfl)
    · have hf := kIf hf c_2
      have t_2 := ti_ne c_2; have w_2 := in_nz c_2
      refine lv_aload_n hx hb dX7_told_38 rfl (lv_at hl 0 rfl) ?_
      refine va_get (D := D) (cl := vwCl) (ci := 6) (v := .ref (ad 3)) (C := RX7) (T := TX7) (N := 34) hx hb hts inX7 hown hK.1 hP 0 (mO h ad ct st) rfl 3 (by decide) hw6 (fun _ h => h) (mF_3 ad st) dX7_told_39 ?_
      refine lv_iload_n hx hb dX7_told_42 rfl (lv_at hl 1 rfl) ?_
      refine lv_bipush (v := (10 : Int32)) hx hb dX7_told_43 (by decide) ?_
      refine lv_isub hx hb dX7_told_45 ?_
      refine va_iald hx hb hK.1 hP 2 0 (mA_3 h ad ct st) rfl (by have e : Int32.toInt (x1 - (10 : Int32)) = Int32.toInt x1 - 10 := ti_sub (by rw [kc10]) (by omega) (by omega); exact vin (by omega) (by omega)) dX7_told_46 ?_
      exact kRetI hx hb hr hlk hP hD hS hf.symm rfl hQ dX7_told_47
  · have hf := kIf hf c_1
    have t_1 := ti_ne c_1; have w_1 := in_nz c_1
    refine lv_aload_n hx hb dX7_told_14 rfl (lv_at hl 0 rfl) ?_
    refine va_get (D := D) (cl := vwCl) (ci := 6) (v := .ref (ad 0)) (C := RX7) (T := TX7) (N := 34) hx hb hts inX7 hown hK.1 hP 0 (mO h ad ct st) rfl 0 (by decide) hw3 (fun _ h => h) (mF_0 ad st) dX7_told_15 ?_
    refine lv_iload_n hx hb dX7_told_18 rfl (lv_at hl 1 rfl) ?_
    refine lv_bipush (v := (100 : Int32)) hx hb dX7_told_19 (by decide) ?_
    refine lv_isub hx hb dX7_told_21 ?_
    refine va_iald hx hb hK.1 hP 1 0 (mA_0 h ad ct st) rfl (by have e : Int32.toInt (x1 - (100 : Int32)) = Int32.toInt x1 - 100 := ti_sub (by rw [kc100]) (by omega) (by omega); exact vin (by omega) (by omega)) dX7_told_22 ?_
    exact kRetI hx hb hr hlk hP hD hS hf.symm rfl hQ dX7_told_23
