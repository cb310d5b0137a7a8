/-! the law: a lemma a case, and its loop, by program (wip/whole/law.py) -/
def lwPre (I st : Nat → Nat → Int32) : Prop := Int32.toInt (I 5 1) ≤ 60 ∧ (0 ≤ Int32.toInt (st 0 13) ∧ Int32.toInt (st 0 13) ≤ 60) ∧ Int32.toInt (st 0 4) < 6 ∧ (0 ≤ Int32.toInt (st 0 11) ∧ Int32.toInt (st 0 11) ≤ 8)
theorem li {i L : Nat} {k : Int32} (kn : Nat) (hk : k = nI kn) (h : i + kn < L) (hL : L ≤ 384) : vp_in (nI i + k) L := by rw [hk, nI_add]; exact vp_in_nI h (by omega)
theorem li0 {i L : Nat} (h : i < L) (hL : L ≤ 384) : vp_in (nI i) L := vp_in_nI h (by omega)
theorem lcmp_self (x : Int64) : lg_cmp x x = 0 := by unfold lg_cmp; rw [if_neg (show ¬ x > x from Int64.lt_irrefl), if_pos rfl]
section LWC
variable {p : Program} {l : Launch} {e : Env} {R : Room} {s : State} {m : MethodId} {args : Array Value} {below : List Frame} {meth : Method} {c : Code} {H : Heap} {locs : List Loc} {cells slots : Nat} {Q : State → Prop}
variable {cc : ByteArray} {pc : Nat} {ls : Array Slot} {rest st0 : List Value} {D : va_G} {ct : ClassId × ClassId × ClassId} {z : Nat × Nat} {A : Nat → Prop} {y : MethodName} {bytes : ByteArray} {ret : Option FieldType} {maxL nL n index fr lo : Nat} {wsy wsy' : List Cond} {As : List Value} {Ts : List Cond} {own : String} {cd ad : Nat → Nat} {h : Nat}
theorem lvX {L : Nat → Nat → Int64} {I st : Nat → Nat → Int32} {L1 : Nat → Nat → Int64} {I1 : Nat → Nat → Int32} {v : Value} {sk : List Value} (S : CallFix p m c cc nL s args Ts own) (hM : kC l D ct z y wsy fr lo (.ref (cd 0) :: As) (xW cd ct L I) (some v) (xW cd ct L1 I1)) (hG : GoodIn Ts (wsV own index y.cls y wsy)) (hY : kY y bytes maxL ret wsy wsy' n) (hR : fr + 1 ≤ R.frames ∧ 8 + (maxL + 11) + lo ≤ R.locals) (hcl : RX6 = y.cls) (hK : kK D ct z A s) (hP : va_P D vwCl (xW cd ct L I ++ mW h ad ct st) H) (hD : va_D A (xW cd ct L I ++ mW h ad ct st)) (hS : va_S A s.heap H locs) (hA : ∀ q : Nat, s.heap.size ≤ q → A q) (hAs : As.length = n) (hsize : ls.size = nL) (hst : st0 = As.reverse ++ .ref (cd 0) :: rest) (hst1 : v :: rest = sk) (hrm : Nat.ble (rest.map fun v => v.category).sum 8 = true) (hcs : cells ≤ R.cells ∧ slots ≤ R.slots) (hdg : decode cc pc = .ok (.invokevirtual index, 3))
    (kk : ∀ (H1 : Heap) (locs1 : List Loc), va_P D vwCl (xW cd ct L1 I1 ++ mW h ad ct st) H1 → va_D A (xW cd ct L1 I1 ++ mW h ad ct st) → va_S A s.heap H1 locs1 → W p l e R s m args below meth c H1 locs1 cells slots Q (F0 m (pc + 3) ls sk)) : W p l e R s m args below meth c H locs cells slots Q (F0 m pc ls st0) :=
  kV (W0 := xW cd ct L I ++ mW h ad ct st) (W1 := xW cd ct L1 I1 ++ mW h ad ct st) S hM hG hY hR hK hP hD hS hA [0, 1, 2, 3, 4, 5, 6, 7, 8, 9, 10, 11, 12, 13, 14, 15, 16, 17] [18, 19, 20, 21, 22, 23, 24, 25, 26, 27, 28, 29, 30, 31, 32, 33, 34] [17, 18, 19, 20, 21, 22, 23, 24, 25, 26, 27, 28, 29, 30, 31, 32, 33, 34, 0, 1, 2, 3, 4, 5, 6, 7, 8, 9, 10, 11, 12, 13, 14, 15, 16] 0 rfl rfl hcl rfl rfl ⟨rfl, rfl⟩ (by decide) rfl rfl hAs hsize hst hst1 hrm hcs hdg kk
theorem lvM {L : Nat → Nat → Int64} {I st : Nat → Nat → Int32} {st1 : Nat → Nat → Int32} {v : Value} {sk : List Value} (S : CallFix p m c cc nL s args Ts own) (hM : kC l D ct z y wsy fr lo (.ref h :: As) (mW h ad ct st) (some v) (mW h ad ct st1)) (hG : GoodIn Ts (wsV own index y.cls y wsy)) (hY : kY y bytes maxL ret wsy wsy' n) (hR : fr + 1 ≤ R.frames ∧ 8 + (maxL + 11) + lo ≤ R.locals) (hcl : RX7 = y.cls) (hK : kK D ct z A s) (hP : va_P D vwCl (xW cd ct L I ++ mW h ad ct st) H) (hD : va_D A (xW cd ct L I ++ mW h ad ct st)) (hS : va_S A s.heap H locs) (hA : ∀ q : Nat, s.heap.size ≤ q → A q) (hAs : As.length = n) (hsize : ls.size = nL) (hst : st0 = As.reverse ++ .ref h :: rest) (hst1 : v :: rest = sk) (hrm : Nat.ble (rest.map fun v => v.category).sum 8 = true) (hcs : cells ≤ R.cells ∧ slots ≤ R.slots) (hdg : decode cc pc = .ok (.invokevirtual index, 3))
    (kk : ∀ (H1 : Heap) (locs1 : List Loc), va_P D vwCl (xW cd ct L I ++ mW h ad ct st1) H1 → va_D A (xW cd ct L I ++ mW h ad ct st1) → va_S A s.heap H1 locs1 → W p l e R s m args below meth c H1 locs1 cells slots Q (F0 m (pc + 3) ls sk)) : W p l e R s m args below meth c H locs cells slots Q (F0 m pc ls st0) :=
  kV (W0 := xW cd ct L I ++ mW h ad ct st) (W1 := xW cd ct L I ++ mW h ad ct st1) S hM hG hY hR hK hP hD hS hA [18, 19, 20, 21, 22, 23, 24, 25, 26, 27, 28, 29, 30, 31, 32, 33, 34] [0, 1, 2, 3, 4, 5, 6, 7, 8, 9, 10, 11, 12, 13, 14, 15, 16, 17] [0, 1, 2, 3, 4, 5, 6, 7, 8, 9, 10, 11, 12, 13, 14, 15, 16, 17, 18, 19, 20, 21, 22, 23, 24, 25, 26, 27, 28, 29, 30, 31, 32, 33, 34] 18 rfl rfl hcl rfl rfl ⟨rfl, rfl⟩ (by decide) rfl rfl hAs hsize hst hst1 hrm hcs hdg kk
end LWC
set_option maxHeartbeats 4000000 in
set_option maxRecDepth 100000 in
theorem lw_c0 {p : Program} {l : Launch} {e : Env} {s : State} {m : MethodId} {below : List Frame} {meth : Method} {c : Code} {D : va_G} {ct : ClassId × ClassId × ClassId} {z : Nat × Nat} {b Ln : Nat} {xs : Nat → Int32} {cd ad : Nat → Nat} {h : Nat} {L : Nat → Nat → Int64} {I st : Nat → Nat → Int32} {i : Nat} {H : Heap} {locs : List Loc} {ls : Array Slot} (C0 : lw_At p s m meth c b Ln xs) (hK : kK D ct z (fun q : Nat => s.heap.size ≤ q) s) (hi : i + 6 ≤ Ln) (hLn : Ln ≤ 384) (hp : lwPre I st) (hl : lv_has ls 4 [(3, .int (nI i)), (2, .ref h), (1, .ref (cd 0)), (0, .ref b)]) (hP : va_P D vwCl (xW cd ct L I ++ mW h ad ct st) H) (hD : va_D (fun q : Nat => s.heap.size ≤ q) (xW cd ct L I ++ mW h ad ct st)) (hS : va_S (fun q : Nat => s.heap.size ≤ q) s.heap H locs)
    (heq : ((f_X6_land (xs (Int32.toNatClampNeg (nI i + (1 : Int32)))) (xs (Int32.toNatClampNeg (nI i + (2 : Int32)))) L I).1) = ((f_X7_land (xs (Int32.toNatClampNeg (nI i + (1 : Int32)))) (xs (Int32.toNatClampNeg (nI i + (2 : Int32)))) st).1))
    (kk : ∀ (H1 : Heap) (locs1 : List Loc), va_P D vwCl (xW cd ct ((f_X6_land (xs (Int32.toNatClampNeg (nI i + (1 : Int32)))) (xs (Int32.toNatClampNeg (nI i + (2 : Int32)))) L I).2) I ++ mW h ad ct ((f_X7_land (xs (Int32.toNatClampNeg (nI i + (1 : Int32)))) (xs (Int32.toNatClampNeg (nI i + (2 : Int32)))) st).2)) H1 → va_D (fun q : Nat => s.heap.size ≤ q) (xW cd ct ((f_X6_land (xs (Int32.toNatClampNeg (nI i + (1 : Int32)))) (xs (Int32.toNatClampNeg (nI i + (2 : Int32)))) L I).2) I ++ mW h ad ct ((f_X7_land (xs (Int32.toNatClampNeg (nI i + (1 : Int32)))) (xs (Int32.toNatClampNeg (nI i + (2 : Int32)))) st).2)) → va_S (fun q : Nat => s.heap.size ≤ q) s.heap H1 locs1 → W p l e room_1 s m #[Value.ref b] below meth c H1 locs1 35 1922 (lw_Z below #[Value.ref b] s) (F0 m 910 ls [])) :
    W p l e room_1 s m #[Value.ref b] below meth c H locs 35 1922 (lw_Z below #[Value.ref b] s) (F0 m 148 ls []) := by
  obtain ⟨hx, hb, hr, hml, hown, hts0, hX, hbl, hlocks, hgv⟩ := C0
  have hts : ∀ w ∈ wsL_law, w.before #[Value.ref b] s = true := fun w h => hts0 w (wsL_law_in w h)
  have hA : ∀ q : Nat, s.heap.size ≤ q → (fun q : Nat => s.heap.size ≤ q) q := fun _ h => h
  have hbA : ¬ (fun q : Nat => s.heap.size ≤ q) b := Nat.not_le.mpr hbl
  refine lv_aload_n hx hb dL_law_148 rfl (lv_at hl 2 rfl) ?_
  refine lv_aload_n hx hb dL_law_149 rfl (lv_at hl 3 rfl) ?_
  refine lv_iload_n hx hb dL_law_150 rfl (lv_at hl 0 rfl) ?_
  refine lv_iconst (v := (1 : Int32)) hx hb dL_law_151 (by decide) ?_
  refine lv_iadd hx hb dL_law_152 ?_
  refine va_sld hx hb hX hbl hbA hS (li 1 (by decide) (by omega) hLn) dL_law_153 ?_
  refine lv_aload_n hx hb dL_law_154 rfl (lv_at hl 3 rfl) ?_
  refine lv_iload_n hx hb dL_law_155 rfl (lv_at hl 0 rfl) ?_
  refine lv_iconst (v := (2 : Int32)) hx hb dL_law_156 (by decide) ?_
  refine lv_iadd hx hb dL_law_157 ?_
  refine va_sld hx hb hX hbl hbA hS (li 2 (by decide) (by omega) hLn) dL_law_158 ?_
  have hM := k_X6_land l D ct z cd (xs (Int32.toNatClampNeg (nI i + (1 : Int32)))) (xs (Int32.toNatClampNeg (nI i + (2 : Int32)))) L I 
  refine lvX (As := [.int (xs (Int32.toNatClampNeg (nI i + (1 : Int32)))), .int (xs (Int32.toNatClampNeg (nI i + (2 : Int32))))]) (rest := []) (sk := [.int ((f_X6_land (xs (Int32.toNatClampNeg (nI i + (1 : Int32)))) (xs (Int32.toNatClampNeg (nI i + (2 : Int32)))) L I).1)]) ⟨hx, hb, hml, hown, hts⟩ hM gL_law_X6_land kyX6_land ⟨Nat.le_of_ble_eq_true rfl, Nat.le_of_ble_eq_true rfl⟩ rfl hK hP hD hS hA rfl hl.1 rfl rfl rfl ⟨Nat.le_of_ble_eq_true rfl, Nat.le_of_ble_eq_true rfl⟩ dL_law_159 (fun H locs hP hD hS => ?_)
  refine lv_aload_n hx hb dL_law_162 rfl (lv_at hl 1 rfl) ?_
  refine lv_aload_n hx hb dL_law_163 rfl (lv_at hl 3 rfl) ?_
  refine lv_iload_n hx hb dL_law_164 rfl (lv_at hl 0 rfl) ?_
  refine lv_iconst (v := (1 : Int32)) hx hb dL_law_165 (by decide) ?_
  refine lv_iadd hx hb dL_law_166 ?_
  refine va_sld hx hb hX hbl hbA hS (li 1 (by decide) (by omega) hLn) dL_law_167 ?_
  refine lv_aload_n hx hb dL_law_168 rfl (lv_at hl 3 rfl) ?_
  refine lv_iload_n hx hb dL_law_169 rfl (lv_at hl 0 rfl) ?_
  refine lv_iconst (v := (2 : Int32)) hx hb dL_law_170 (by decide) ?_
  refine lv_iadd hx hb dL_law_171 ?_
  refine va_sld hx hb hX hbl hbA hS (li 2 (by decide) (by omega) hLn) dL_law_172 ?_
  have hM := k_X7_land l D ct z h ad (xs (Int32.toNatClampNeg (nI i + (1 : Int32)))) (xs (Int32.toNatClampNeg (nI i + (2 : Int32)))) st 
  refine lvM (As := [.int (xs (Int32.toNatClampNeg (nI i + (1 : Int32)))), .int (xs (Int32.toNatClampNeg (nI i + (2 : Int32))))]) (rest := [.int ((f_X6_land (xs (Int32.toNatClampNeg (nI i + (1 : Int32)))) (xs (Int32.toNatClampNeg (nI i + (2 : Int32)))) L I).1)]) (sk := [.int ((f_X7_land (xs (Int32.toNatClampNeg (nI i + (1 : Int32)))) (xs (Int32.toNatClampNeg (nI i + (2 : Int32)))) st).1), .int ((f_X6_land (xs (Int32.toNatClampNeg (nI i + (1 : Int32)))) (xs (Int32.toNatClampNeg (nI i + (2 : Int32)))) L I).1)]) ⟨hx, hb, hml, hown, hts⟩ hM gL_law_X7_land kyX7_land ⟨Nat.le_of_ble_eq_true rfl, Nat.le_of_ble_eq_true rfl⟩ rfl hK hP hD hS hA rfl hl.1 rfl rfl rfl ⟨Nat.le_of_ble_eq_true rfl, Nat.le_of_ble_eq_true rfl⟩ dL_law_173 (fun H locs hP hD hS => ?_)
  refine lv_icmp_eq (tgt := 910) hx hb dL_law_176 (by decide) (fun _ => ?_) (fun c9 => absurd heq c9)
  exact kk H locs hP hD hS
set_option maxHeartbeats 4000000 in
set_option maxRecDepth 100000 in
theorem lw_c1 {p : Program} {l : Launch} {e : Env} {s : State} {m : MethodId} {below : List Frame} {meth : Method} {c : Code} {D : va_G} {ct : ClassId × ClassId × ClassId} {z : Nat × Nat} {b Ln : Nat} {xs : Nat → Int32} {cd ad : Nat → Nat} {h : Nat} {L : Nat → Nat → Int64} {I st : Nat → Nat → Int32} {i : Nat} {H : Heap} {locs : List Loc} {ls : Array Slot} (C0 : lw_At p s m meth c b Ln xs) (hK : kK D ct z (fun q : Nat => s.heap.size ≤ q) s) (hi : i + 6 ≤ Ln) (hLn : Ln ≤ 384) (hp : lwPre I st) (hl : lv_has ls 4 [(3, .int (nI i)), (2, .ref h), (1, .ref (cd 0)), (0, .ref b)]) (hP : va_P D vwCl (xW cd ct L I ++ mW h ad ct st) H) (hD : va_D (fun q : Nat => s.heap.size ≤ q) (xW cd ct L I ++ mW h ad ct st)) (hS : va_S (fun q : Nat => s.heap.size ≤ q) s.heap H locs)
    (heq : ((f_X6_ship (xs (Int32.toNatClampNeg (nI i + (1 : Int32)))) (xs (Int32.toNatClampNeg (nI i + (2 : Int32)))) L I).1) = ((f_X7_ship (xs (Int32.toNatClampNeg (nI i + (1 : Int32)))) (xs (Int32.toNatClampNeg (nI i + (2 : Int32)))) st).1))
    (kk : ∀ (H1 : Heap) (locs1 : List Loc), va_P D vwCl (xW cd ct L ((f_X6_ship (xs (Int32.toNatClampNeg (nI i + (1 : Int32)))) (xs (Int32.toNatClampNeg (nI i + (2 : Int32)))) L I).2) ++ mW h ad ct ((f_X7_ship (xs (Int32.toNatClampNeg (nI i + (1 : Int32)))) (xs (Int32.toNatClampNeg (nI i + (2 : Int32)))) st).2)) H1 → va_D (fun q : Nat => s.heap.size ≤ q) (xW cd ct L ((f_X6_ship (xs (Int32.toNatClampNeg (nI i + (1 : Int32)))) (xs (Int32.toNatClampNeg (nI i + (2 : Int32)))) L I).2) ++ mW h ad ct ((f_X7_ship (xs (Int32.toNatClampNeg (nI i + (1 : Int32)))) (xs (Int32.toNatClampNeg (nI i + (2 : Int32)))) st).2)) → va_S (fun q : Nat => s.heap.size ≤ q) s.heap H1 locs1 → W p l e room_1 s m #[Value.ref b] below meth c H1 locs1 35 1922 (lw_Z below #[Value.ref b] s) (F0 m 910 ls [])) :
    W p l e room_1 s m #[Value.ref b] below meth c H locs 35 1922 (lw_Z below #[Value.ref b] s) (F0 m 181 ls []) := by
  obtain ⟨hx, hb, hr, hml, hown, hts0, hX, hbl, hlocks, hgv⟩ := C0
  have hts : ∀ w ∈ wsL_law, w.before #[Value.ref b] s = true := fun w h => hts0 w (wsL_law_in w h)
  have hA : ∀ q : Nat, s.heap.size ≤ q → (fun q : Nat => s.heap.size ≤ q) q := fun _ h => h
  have hbA : ¬ (fun q : Nat => s.heap.size ≤ q) b := Nat.not_le.mpr hbl
  refine lv_aload_n hx hb dL_law_181 rfl (lv_at hl 2 rfl) ?_
  refine lv_aload_n hx hb dL_law_182 rfl (lv_at hl 3 rfl) ?_
  refine lv_iload_n hx hb dL_law_183 rfl (lv_at hl 0 rfl) ?_
  refine lv_iconst (v := (1 : Int32)) hx hb dL_law_184 (by decide) ?_
  refine lv_iadd hx hb dL_law_185 ?_
  refine va_sld hx hb hX hbl hbA hS (li 1 (by decide) (by omega) hLn) dL_law_186 ?_
  refine lv_aload_n hx hb dL_law_187 rfl (lv_at hl 3 rfl) ?_
  refine lv_iload_n hx hb dL_law_188 rfl (lv_at hl 0 rfl) ?_
  refine lv_iconst (v := (2 : Int32)) hx hb dL_law_189 (by decide) ?_
  refine lv_iadd hx hb dL_law_190 ?_
  refine va_sld hx hb hX hbl hbA hS (li 2 (by decide) (by omega) hLn) dL_law_191 ?_
  have hM := k_X6_ship l D ct z cd (xs (Int32.toNatClampNeg (nI i + (1 : Int32)))) (xs (Int32.toNatClampNeg (nI i + (2 : Int32)))) L I 
  refine lvX (As := [.int (xs (Int32.toNatClampNeg (nI i + (1 : Int32)))), .int (xs (Int32.toNatClampNeg (nI i + (2 : Int32))))]) (rest := []) (sk := [.int ((f_X6_ship (xs (Int32.toNatClampNeg (nI i + (1 : Int32)))) (xs (Int32.toNatClampNeg (nI i + (2 : Int32)))) L I).1)]) ⟨hx, hb, hml, hown, hts⟩ hM gL_law_X6_ship kyX6_ship ⟨Nat.le_of_ble_eq_true rfl, Nat.le_of_ble_eq_true rfl⟩ rfl hK hP hD hS hA rfl hl.1 rfl rfl rfl ⟨Nat.le_of_ble_eq_true rfl, Nat.le_of_ble_eq_true rfl⟩ dL_law_192 (fun H locs hP hD hS => ?_)
  refine lv_aload_n hx hb dL_law_195 rfl (lv_at hl 1 rfl) ?_
  refine lv_aload_n hx hb dL_law_196 rfl (lv_at hl 3 rfl) ?_
  refine lv_iload_n hx hb dL_law_197 rfl (lv_at hl 0 rfl) ?_
  refine lv_iconst (v := (1 : Int32)) hx hb dL_law_198 (by decide) ?_
  refine lv_iadd hx hb dL_law_199 ?_
  refine va_sld hx hb hX hbl hbA hS (li 1 (by decide) (by omega) hLn) dL_law_200 ?_
  refine lv_aload_n hx hb dL_law_201 rfl (lv_at hl 3 rfl) ?_
  refine lv_iload_n hx hb dL_law_202 rfl (lv_at hl 0 rfl) ?_
  refine lv_iconst (v := (2 : Int32)) hx hb dL_law_203 (by decide) ?_
  refine lv_iadd hx hb dL_law_204 ?_
  refine va_sld hx hb hX hbl hbA hS (li 2 (by decide) (by omega) hLn) dL_law_205 ?_
  have hM := k_X7_ship l D ct z h ad (xs (Int32.toNatClampNeg (nI i + (1 : Int32)))) (xs (Int32.toNatClampNeg (nI i + (2 : Int32)))) st 
  refine lvM (As := [.int (xs (Int32.toNatClampNeg (nI i + (1 : Int32)))), .int (xs (Int32.toNatClampNeg (nI i + (2 : Int32))))]) (rest := [.int ((f_X6_ship (xs (Int32.toNatClampNeg (nI i + (1 : Int32)))) (xs (Int32.toNatClampNeg (nI i + (2 : Int32)))) L I).1)]) (sk := [.int ((f_X7_ship (xs (Int32.toNatClampNeg (nI i + (1 : Int32)))) (xs (Int32.toNatClampNeg (nI i + (2 : Int32)))) st).1), .int ((f_X6_ship (xs (Int32.toNatClampNeg (nI i + (1 : Int32)))) (xs (Int32.toNatClampNeg (nI i + (2 : Int32)))) L I).1)]) ⟨hx, hb, hml, hown, hts⟩ hM gL_law_X7_ship kyX7_ship ⟨Nat.le_of_ble_eq_true rfl, Nat.le_of_ble_eq_true rfl⟩ rfl hK hP hD hS hA rfl hl.1 rfl rfl rfl ⟨Nat.le_of_ble_eq_true rfl, Nat.le_of_ble_eq_true rfl⟩ dL_law_206 (fun H locs hP hD hS => ?_)
  refine lv_icmp_eq (tgt := 910) hx hb dL_law_209 (by decide) (fun _ => ?_) (fun c9 => absurd heq c9)
  exact kk H locs hP hD hS
set_option maxHeartbeats 4000000 in
set_option maxRecDepth 100000 in
theorem lw_c2 {p : Program} {l : Launch} {e : Env} {s : State} {m : MethodId} {below : List Frame} {meth : Method} {c : Code} {D : va_G} {ct : ClassId × ClassId × ClassId} {z : Nat × Nat} {b Ln : Nat} {xs : Nat → Int32} {cd ad : Nat → Nat} {h : Nat} {L : Nat → Nat → Int64} {I st : Nat → Nat → Int32} {i : Nat} {H : Heap} {locs : List Loc} {ls : Array Slot} (C0 : lw_At p s m meth c b Ln xs) (hK : kK D ct z (fun q : Nat => s.heap.size ≤ q) s) (hi : i + 6 ≤ Ln) (hLn : Ln ≤ 384) (hp : lwPre I st) (hl : lv_has ls 4 [(3, .int (nI i)), (2, .ref h), (1, .ref (cd 0)), (0, .ref b)]) (hP : va_P D vwCl (xW cd ct L I ++ mW h ad ct st) H) (hD : va_D (fun q : Nat => s.heap.size ≤ q) (xW cd ct L I ++ mW h ad ct st)) (hS : va_S (fun q : Nat => s.heap.size ≤ q) s.heap H locs)
    (heq : ((f_X6_watcher (xs (Int32.toNatClampNeg (nI i + (1 : Int32)))) (xs (Int32.toNatClampNeg (nI i + (2 : Int32)))) L I).1) = ((f_X7_watcher (xs (Int32.toNatClampNeg (nI i + (1 : Int32)))) (xs (Int32.toNatClampNeg (nI i + (2 : Int32)))) st).1))
    (kk : ∀ (H1 : Heap) (locs1 : List Loc), va_P D vwCl (xW cd ct L ((f_X6_watcher (xs (Int32.toNatClampNeg (nI i + (1 : Int32)))) (xs (Int32.toNatClampNeg (nI i + (2 : Int32)))) L I).2) ++ mW h ad ct ((f_X7_watcher (xs (Int32.toNatClampNeg (nI i + (1 : Int32)))) (xs (Int32.toNatClampNeg (nI i + (2 : Int32)))) st).2)) H1 → va_D (fun q : Nat => s.heap.size ≤ q) (xW cd ct L ((f_X6_watcher (xs (Int32.toNatClampNeg (nI i + (1 : Int32)))) (xs (Int32.toNatClampNeg (nI i + (2 : Int32)))) L I).2) ++ mW h ad ct ((f_X7_watcher (xs (Int32.toNatClampNeg (nI i + (1 : Int32)))) (xs (Int32.toNatClampNeg (nI i + (2 : Int32)))) st).2)) → va_S (fun q : Nat => s.heap.size ≤ q) s.heap H1 locs1 → W p l e room_1 s m #[Value.ref b] below meth c H1 locs1 35 1922 (lw_Z below #[Value.ref b] s) (F0 m 910 ls [])) :
    W p l e room_1 s m #[Value.ref b] below meth c H locs 35 1922 (lw_Z below #[Value.ref b] s) (F0 m 214 ls []) := by
  obtain ⟨hx, hb, hr, hml, hown, hts0, hX, hbl, hlocks, hgv⟩ := C0
  have hts : ∀ w ∈ wsL_law, w.before #[Value.ref b] s = true := fun w h => hts0 w (wsL_law_in w h)
  have hA : ∀ q : Nat, s.heap.size ≤ q → (fun q : Nat => s.heap.size ≤ q) q := fun _ h => h
  have hbA : ¬ (fun q : Nat => s.heap.size ≤ q) b := Nat.not_le.mpr hbl
  refine lv_aload_n hx hb dL_law_214 rfl (lv_at hl 2 rfl) ?_
  refine lv_aload_n hx hb dL_law_215 rfl (lv_at hl 3 rfl) ?_
  refine lv_iload_n hx hb dL_law_216 rfl (lv_at hl 0 rfl) ?_
  refine lv_iconst (v := (1 : Int32)) hx hb dL_law_217 (by decide) ?_
  refine lv_iadd hx hb dL_law_218 ?_
  refine va_sld hx hb hX hbl hbA hS (li 1 (by decide) (by omega) hLn) dL_law_219 ?_
  refine lv_aload_n hx hb dL_law_220 rfl (lv_at hl 3 rfl) ?_
  refine lv_iload_n hx hb dL_law_221 rfl (lv_at hl 0 rfl) ?_
  refine lv_iconst (v := (2 : Int32)) hx hb dL_law_222 (by decide) ?_
  refine lv_iadd hx hb dL_law_223 ?_
  refine va_sld hx hb hX hbl hbA hS (li 2 (by decide) (by omega) hLn) dL_law_224 ?_
  have hM := k_X6_watcher l D ct z cd (xs (Int32.toNatClampNeg (nI i + (1 : Int32)))) (xs (Int32.toNatClampNeg (nI i + (2 : Int32)))) L I 
  refine lvX (As := [.int (xs (Int32.toNatClampNeg (nI i + (1 : Int32)))), .int (xs (Int32.toNatClampNeg (nI i + (2 : Int32))))]) (rest := []) (sk := [.int ((f_X6_watcher (xs (Int32.toNatClampNeg (nI i + (1 : Int32)))) (xs (Int32.toNatClampNeg (nI i + (2 : Int32)))) L I).1)]) ⟨hx, hb, hml, hown, hts⟩ hM gL_law_X6_watcher kyX6_watcher ⟨Nat.le_of_ble_eq_true rfl, Nat.le_of_ble_eq_true rfl⟩ rfl hK hP hD hS hA rfl hl.1 rfl rfl rfl ⟨Nat.le_of_ble_eq_true rfl, Nat.le_of_ble_eq_true rfl⟩ dL_law_225 (fun H locs hP hD hS => ?_)
  refine lv_aload_n hx hb dL_law_228 rfl (lv_at hl 1 rfl) ?_
  refine lv_aload_n hx hb dL_law_229 rfl (lv_at hl 3 rfl) ?_
  refine lv_iload_n hx hb dL_law_230 rfl (lv_at hl 0 rfl) ?_
  refine lv_iconst (v := (1 : Int32)) hx hb dL_law_231 (by decide) ?_
  refine lv_iadd hx hb dL_law_232 ?_
  refine va_sld hx hb hX hbl hbA hS (li 1 (by decide) (by omega) hLn) dL_law_233 ?_
  refine lv_aload_n hx hb dL_law_234 rfl (lv_at hl 3 rfl) ?_
  refine lv_iload_n hx hb dL_law_235 rfl (lv_at hl 0 rfl) ?_
  refine lv_iconst (v := (2 : Int32)) hx hb dL_law_236 (by decide) ?_
  refine lv_iadd hx hb dL_law_237 ?_
  refine va_sld hx hb hX hbl hbA hS (li 2 (by decide) (by omega) hLn) dL_law_238 ?_
  have hM := k_X7_watcher l D ct z h ad (xs (Int32.toNatClampNeg (nI i + (1 : Int32)))) (xs (Int32.toNatClampNeg (nI i + (2 : Int32)))) st 
  refine lvM (As := [.int (xs (Int32.toNatClampNeg (nI i + (1 : Int32)))), .int (xs (Int32.toNatClampNeg (nI i + (2 : Int32))))]) (rest := [.int ((f_X6_watcher (xs (Int32.toNatClampNeg (nI i + (1 : Int32)))) (xs (Int32.toNatClampNeg (nI i + (2 : Int32)))) L I).1)]) (sk := [.int ((f_X7_watcher (xs (Int32.toNatClampNeg (nI i + (1 : Int32)))) (xs (Int32.toNatClampNeg (nI i + (2 : Int32)))) st).1), .int ((f_X6_watcher (xs (Int32.toNatClampNeg (nI i + (1 : Int32)))) (xs (Int32.toNatClampNeg (nI i + (2 : Int32)))) L I).1)]) ⟨hx, hb, hml, hown, hts⟩ hM gL_law_X7_watcher kyX7_watcher ⟨Nat.le_of_ble_eq_true rfl, Nat.le_of_ble_eq_true rfl⟩ rfl hK hP hD hS hA rfl hl.1 rfl rfl rfl ⟨Nat.le_of_ble_eq_true rfl, Nat.le_of_ble_eq_true rfl⟩ dL_law_239 (fun H locs hP hD hS => ?_)
  refine lv_icmp_eq (tgt := 910) hx hb dL_law_242 (by decide) (fun _ => ?_) (fun c9 => absurd heq c9)
  exact kk H locs hP hD hS
set_option maxHeartbeats 4000000 in
set_option maxRecDepth 100000 in
theorem lw_c3 {p : Program} {l : Launch} {e : Env} {s : State} {m : MethodId} {below : List Frame} {meth : Method} {c : Code} {D : va_G} {ct : ClassId × ClassId × ClassId} {z : Nat × Nat} {b Ln : Nat} {xs : Nat → Int32} {cd ad : Nat → Nat} {h : Nat} {L : Nat → Nat → Int64} {I st : Nat → Nat → Int32} {i : Nat} {H : Heap} {locs : List Loc} {ls : Array Slot} (C0 : lw_At p s m meth c b Ln xs) (hK : kK D ct z (fun q : Nat => s.heap.size ≤ q) s) (hi : i + 6 ≤ Ln) (hLn : Ln ≤ 384) (hp : lwPre I st) (hl : lv_has ls 4 [(3, .int (nI i)), (2, .ref h), (1, .ref (cd 0)), (0, .ref b)]) (hP : va_P D vwCl (xW cd ct L I ++ mW h ad ct st) H) (hD : va_D (fun q : Nat => s.heap.size ≤ q) (xW cd ct L I ++ mW h ad ct st)) (hS : va_S (fun q : Nat => s.heap.size ≤ q) s.heap H locs)
    (heq : ((f_X6_fog (xs (Int32.toNatClampNeg (nI i + (1 : Int32)))) L I).1) = ((f_X7_fog (xs (Int32.toNatClampNeg (nI i + (1 : Int32)))) st).1))
    (kk : ∀ (H1 : Heap) (locs1 : List Loc), va_P D vwCl (xW cd ct L ((f_X6_fog (xs (Int32.toNatClampNeg (nI i + (1 : Int32)))) L I).2) ++ mW h ad ct ((f_X7_fog (xs (Int32.toNatClampNeg (nI i + (1 : Int32)))) st).2)) H1 → va_D (fun q : Nat => s.heap.size ≤ q) (xW cd ct L ((f_X6_fog (xs (Int32.toNatClampNeg (nI i + (1 : Int32)))) L I).2) ++ mW h ad ct ((f_X7_fog (xs (Int32.toNatClampNeg (nI i + (1 : Int32)))) st).2)) → va_S (fun q : Nat => s.heap.size ≤ q) s.heap H1 locs1 → W p l e room_1 s m #[Value.ref b] below meth c H1 locs1 35 1922 (lw_Z below #[Value.ref b] s) (F0 m 910 ls [])) :
    W p l e room_1 s m #[Value.ref b] below meth c H locs 35 1922 (lw_Z below #[Value.ref b] s) (F0 m 247 ls []) := by
  obtain ⟨hx, hb, hr, hml, hown, hts0, hX, hbl, hlocks, hgv⟩ := C0
  have hts : ∀ w ∈ wsL_law, w.before #[Value.ref b] s = true := fun w h => hts0 w (wsL_law_in w h)
  have hA : ∀ q : Nat, s.heap.size ≤ q → (fun q : Nat => s.heap.size ≤ q) q := fun _ h => h
  have hbA : ¬ (fun q : Nat => s.heap.size ≤ q) b := Nat.not_le.mpr hbl
  refine lv_aload_n hx hb dL_law_247 rfl (lv_at hl 2 rfl) ?_
  refine lv_aload_n hx hb dL_law_248 rfl (lv_at hl 3 rfl) ?_
  refine lv_iload_n hx hb dL_law_249 rfl (lv_at hl 0 rfl) ?_
  refine lv_iconst (v := (1 : Int32)) hx hb dL_law_250 (by decide) ?_
  refine lv_iadd hx hb dL_law_251 ?_
  refine va_sld hx hb hX hbl hbA hS (li 1 (by decide) (by omega) hLn) dL_law_252 ?_
  have hM := k_X6_fog l D ct z cd (xs (Int32.toNatClampNeg (nI i + (1 : Int32)))) L I 
  refine lvX (As := [.int (xs (Int32.toNatClampNeg (nI i + (1 : Int32))))]) (rest := []) (sk := [.int ((f_X6_fog (xs (Int32.toNatClampNeg (nI i + (1 : Int32)))) L I).1)]) ⟨hx, hb, hml, hown, hts⟩ hM gL_law_X6_fog kyX6_fog ⟨Nat.le_of_ble_eq_true rfl, Nat.le_of_ble_eq_true rfl⟩ rfl hK hP hD hS hA rfl hl.1 rfl rfl rfl ⟨Nat.le_of_ble_eq_true rfl, Nat.le_of_ble_eq_true rfl⟩ dL_law_253 (fun H locs hP hD hS => ?_)
  refine lv_aload_n hx hb dL_law_256 rfl (lv_at hl 1 rfl) ?_
  refine lv_aload_n hx hb dL_law_257 rfl (lv_at hl 3 rfl) ?_
  refine lv_iload_n hx hb dL_law_258 rfl (lv_at hl 0 rfl) ?_
  refine lv_iconst (v := (1 : Int32)) hx hb dL_law_259 (by decide) ?_
  refine lv_iadd hx hb dL_law_260 ?_
  refine va_sld hx hb hX hbl hbA hS (li 1 (by decide) (by omega) hLn) dL_law_261 ?_
  have hM := k_X7_fog l D ct z h ad (xs (Int32.toNatClampNeg (nI i + (1 : Int32)))) st 
  refine lvM (As := [.int (xs (Int32.toNatClampNeg (nI i + (1 : Int32))))]) (rest := [.int ((f_X6_fog (xs (Int32.toNatClampNeg (nI i + (1 : Int32)))) L I).1)]) (sk := [.int ((f_X7_fog (xs (Int32.toNatClampNeg (nI i + (1 : Int32)))) st).1), .int ((f_X6_fog (xs (Int32.toNatClampNeg (nI i + (1 : Int32)))) L I).1)]) ⟨hx, hb, hml, hown, hts⟩ hM gL_law_X7_fog kyX7_fog ⟨Nat.le_of_ble_eq_true rfl, Nat.le_of_ble_eq_true rfl⟩ rfl hK hP hD hS hA rfl hl.1 rfl rfl rfl ⟨Nat.le_of_ble_eq_true rfl, Nat.le_of_ble_eq_true rfl⟩ dL_law_262 (fun H locs hP hD hS => ?_)
  refine lv_icmp_eq (tgt := 910) hx hb dL_law_265 (by decide) (fun _ => ?_) (fun c9 => absurd heq c9)
  exact kk H locs hP hD hS
set_option maxHeartbeats 4000000 in
set_option maxRecDepth 100000 in
theorem lw_c4 {p : Program} {l : Launch} {e : Env} {s : State} {m : MethodId} {below : List Frame} {meth : Method} {c : Code} {D : va_G} {ct : ClassId × ClassId × ClassId} {z : Nat × Nat} {b Ln : Nat} {xs : Nat → Int32} {cd ad : Nat → Nat} {h : Nat} {L : Nat → Nat → Int64} {I st : Nat → Nat → Int32} {i : Nat} {H : Heap} {locs : List Loc} {ls : Array Slot} (C0 : lw_At p s m meth c b Ln xs) (hK : kK D ct z (fun q : Nat => s.heap.size ≤ q) s) (hi : i + 6 ≤ Ln) (hLn : Ln ≤ 384) (hp : lwPre I st) (hl : lv_has ls 4 [(3, .int (nI i)), (2, .ref h), (1, .ref (cd 0)), (0, .ref b)]) (hP : va_P D vwCl (xW cd ct L I ++ mW h ad ct st) H) (hD : va_D (fun q : Nat => s.heap.size ≤ q) (xW cd ct L I ++ mW h ad ct st)) (hS : va_S (fun q : Nat => s.heap.size ≤ q) s.heap H locs)
    (heq : ((f_X6_say (xs (Int32.toNatClampNeg (nI i + (1 : Int32)))) L I).1) = ((f_X7_say (xs (Int32.toNatClampNeg (nI i + (1 : Int32)))) st).1))
    (kk : ∀ (H1 : Heap) (locs1 : List Loc), va_P D vwCl (xW cd ct L ((f_X6_say (xs (Int32.toNatClampNeg (nI i + (1 : Int32)))) L I).2) ++ mW h ad ct ((f_X7_say (xs (Int32.toNatClampNeg (nI i + (1 : Int32)))) st).2)) H1 → va_D (fun q : Nat => s.heap.size ≤ q) (xW cd ct L ((f_X6_say (xs (Int32.toNatClampNeg (nI i + (1 : Int32)))) L I).2) ++ mW h ad ct ((f_X7_say (xs (Int32.toNatClampNeg (nI i + (1 : Int32)))) st).2)) → va_S (fun q : Nat => s.heap.size ≤ q) s.heap H1 locs1 → W p l e room_1 s m #[Value.ref b] below meth c H1 locs1 35 1922 (lw_Z below #[Value.ref b] s) (F0 m 910 ls [])) :
    W p l e room_1 s m #[Value.ref b] below meth c H locs 35 1922 (lw_Z below #[Value.ref b] s) (F0 m 270 ls []) := by
  obtain ⟨hx, hb, hr, hml, hown, hts0, hX, hbl, hlocks, hgv⟩ := C0
  have hts : ∀ w ∈ wsL_law, w.before #[Value.ref b] s = true := fun w h => hts0 w (wsL_law_in w h)
  have hA : ∀ q : Nat, s.heap.size ≤ q → (fun q : Nat => s.heap.size ≤ q) q := fun _ h => h
  have hbA : ¬ (fun q : Nat => s.heap.size ≤ q) b := Nat.not_le.mpr hbl
  refine lv_aload_n hx hb dL_law_270 rfl (lv_at hl 2 rfl) ?_
  refine lv_aload_n hx hb dL_law_271 rfl (lv_at hl 3 rfl) ?_
  refine lv_iload_n hx hb dL_law_272 rfl (lv_at hl 0 rfl) ?_
  refine lv_iconst (v := (1 : Int32)) hx hb dL_law_273 (by decide) ?_
  refine lv_iadd hx hb dL_law_274 ?_
  refine va_sld hx hb hX hbl hbA hS (li 1 (by decide) (by omega) hLn) dL_law_275 ?_
  have hM := k_X6_say l D ct z cd (xs (Int32.toNatClampNeg (nI i + (1 : Int32)))) L I 
  refine lvX (As := [.int (xs (Int32.toNatClampNeg (nI i + (1 : Int32))))]) (rest := []) (sk := [.int ((f_X6_say (xs (Int32.toNatClampNeg (nI i + (1 : Int32)))) L I).1)]) ⟨hx, hb, hml, hown, hts⟩ hM gL_law_X6_say kyX6_say ⟨Nat.le_of_ble_eq_true rfl, Nat.le_of_ble_eq_true rfl⟩ rfl hK hP hD hS hA rfl hl.1 rfl rfl rfl ⟨Nat.le_of_ble_eq_true rfl, Nat.le_of_ble_eq_true rfl⟩ dL_law_276 (fun H locs hP hD hS => ?_)
  refine lv_aload_n hx hb dL_law_279 rfl (lv_at hl 1 rfl) ?_
  refine lv_aload_n hx hb dL_law_280 rfl (lv_at hl 3 rfl) ?_
  refine lv_iload_n hx hb dL_law_281 rfl (lv_at hl 0 rfl) ?_
  refine lv_iconst (v := (1 : Int32)) hx hb dL_law_282 (by decide) ?_
  refine lv_iadd hx hb dL_law_283 ?_
  refine va_sld hx hb hX hbl hbA hS (li 1 (by decide) (by omega) hLn) dL_law_284 ?_
  have hM := k_X7_say l D ct z h ad (xs (Int32.toNatClampNeg (nI i + (1 : Int32)))) st hp.2.1
  refine lvM (As := [.int (xs (Int32.toNatClampNeg (nI i + (1 : Int32))))]) (rest := [.int ((f_X6_say (xs (Int32.toNatClampNeg (nI i + (1 : Int32)))) L I).1)]) (sk := [.int ((f_X7_say (xs (Int32.toNatClampNeg (nI i + (1 : Int32)))) st).1), .int ((f_X6_say (xs (Int32.toNatClampNeg (nI i + (1 : Int32)))) L I).1)]) ⟨hx, hb, hml, hown, hts⟩ hM gL_law_X7_say kyX7_say ⟨Nat.le_of_ble_eq_true rfl, Nat.le_of_ble_eq_true rfl⟩ rfl hK hP hD hS hA rfl hl.1 rfl rfl rfl ⟨Nat.le_of_ble_eq_true rfl, Nat.le_of_ble_eq_true rfl⟩ dL_law_285 (fun H locs hP hD hS => ?_)
  refine lv_icmp_eq (tgt := 910) hx hb dL_law_288 (by decide) (fun _ => ?_) (fun c9 => absurd heq c9)
  exact kk H locs hP hD hS
set_option maxHeartbeats 4000000 in
set_option maxRecDepth 100000 in
theorem lw_c5 {p : Program} {l : Launch} {e : Env} {s : State} {m : MethodId} {below : List Frame} {meth : Method} {c : Code} {D : va_G} {ct : ClassId × ClassId × ClassId} {z : Nat × Nat} {b Ln : Nat} {xs : Nat → Int32} {cd ad : Nat → Nat} {h : Nat} {L : Nat → Nat → Int64} {I st : Nat → Nat → Int32} {i : Nat} {H : Heap} {locs : List Loc} {ls : Array Slot} (C0 : lw_At p s m meth c b Ln xs) (hK : kK D ct z (fun q : Nat => s.heap.size ≤ q) s) (hi : i + 6 ≤ Ln) (hLn : Ln ≤ 384) (hp : lwPre I st) (hl : lv_has ls 4 [(3, .int (nI i)), (2, .ref h), (1, .ref (cd 0)), (0, .ref b)]) (hP : va_P D vwCl (xW cd ct L I ++ mW h ad ct st) H) (hD : va_D (fun q : Nat => s.heap.size ≤ q) (xW cd ct L I ++ mW h ad ct st)) (hS : va_S (fun q : Nat => s.heap.size ≤ q) s.heap H locs)
    (heq : ((f_X6_wipe L I).1) = ((f_X7_wipe st).1))
    (kk : ∀ (H1 : Heap) (locs1 : List Loc), va_P D vwCl (xW cd ct L ((f_X6_wipe L I).2) ++ mW h ad ct ((f_X7_wipe st).2)) H1 → va_D (fun q : Nat => s.heap.size ≤ q) (xW cd ct L ((f_X6_wipe L I).2) ++ mW h ad ct ((f_X7_wipe st).2)) → va_S (fun q : Nat => s.heap.size ≤ q) s.heap H1 locs1 → W p l e room_1 s m #[Value.ref b] below meth c H1 locs1 35 1922 (lw_Z below #[Value.ref b] s) (F0 m 910 ls [])) :
    W p l e room_1 s m #[Value.ref b] below meth c H locs 35 1922 (lw_Z below #[Value.ref b] s) (F0 m 293 ls []) := by
  obtain ⟨hx, hb, hr, hml, hown, hts0, hX, hbl, hlocks, hgv⟩ := C0
  have hts : ∀ w ∈ wsL_law, w.before #[Value.ref b] s = true := fun w h => hts0 w (wsL_law_in w h)
  have hA : ∀ q : Nat, s.heap.size ≤ q → (fun q : Nat => s.heap.size ≤ q) q := fun _ h => h
  have hbA : ¬ (fun q : Nat => s.heap.size ≤ q) b := Nat.not_le.mpr hbl
  refine lv_aload_n hx hb dL_law_293 rfl (lv_at hl 2 rfl) ?_
  have hM := k_X6_wipe l D ct z cd  L I 
  refine lvX (As := []) (rest := []) (sk := [.int ((f_X6_wipe L I).1)]) ⟨hx, hb, hml, hown, hts⟩ hM gL_law_X6_wipe kyX6_wipe ⟨Nat.le_of_ble_eq_true rfl, Nat.le_of_ble_eq_true rfl⟩ rfl hK hP hD hS hA rfl hl.1 rfl rfl rfl ⟨Nat.le_of_ble_eq_true rfl, Nat.le_of_ble_eq_true rfl⟩ dL_law_294 (fun H locs hP hD hS => ?_)
  refine lv_aload_n hx hb dL_law_297 rfl (lv_at hl 1 rfl) ?_
  have hM := k_X7_wipe l D ct z h ad  st 
  refine lvM (As := []) (rest := [.int ((f_X6_wipe L I).1)]) (sk := [.int ((f_X7_wipe st).1), .int ((f_X6_wipe L I).1)]) ⟨hx, hb, hml, hown, hts⟩ hM gL_law_X7_wipe kyX7_wipe ⟨Nat.le_of_ble_eq_true rfl, Nat.le_of_ble_eq_true rfl⟩ rfl hK hP hD hS hA rfl hl.1 rfl rfl rfl ⟨Nat.le_of_ble_eq_true rfl, Nat.le_of_ble_eq_true rfl⟩ dL_law_298 (fun H locs hP hD hS => ?_)
  refine lv_icmp_eq (tgt := 910) hx hb dL_law_301 (by decide) (fun _ => ?_) (fun c9 => absurd heq c9)
  exact kk H locs hP hD hS
set_option maxHeartbeats 4000000 in
set_option maxRecDepth 100000 in
theorem lw_c6 {p : Program} {l : Launch} {e : Env} {s : State} {m : MethodId} {below : List Frame} {meth : Method} {c : Code} {D : va_G} {ct : ClassId × ClassId × ClassId} {z : Nat × Nat} {b Ln : Nat} {xs : Nat → Int32} {cd ad : Nat → Nat} {h : Nat} {L : Nat → Nat → Int64} {I st : Nat → Nat → Int32} {i : Nat} {H : Heap} {locs : List Loc} {ls : Array Slot} (C0 : lw_At p s m meth c b Ln xs) (hK : kK D ct z (fun q : Nat => s.heap.size ≤ q) s) (hi : i + 6 ≤ Ln) (hLn : Ln ≤ 384) (hp : lwPre I st) (hl : lv_has ls 4 [(3, .int (nI i)), (2, .ref h), (1, .ref (cd 0)), (0, .ref b)]) (hP : va_P D vwCl (xW cd ct L I ++ mW h ad ct st) H) (hD : va_D (fun q : Nat => s.heap.size ≤ q) (xW cd ct L I ++ mW h ad ct st)) (hS : va_S (fun q : Nat => s.heap.size ≤ q) s.heap H locs)
    (heq : (f_X6_fault L I) = ((f_X7_fault st).1))
    (kk : ∀ (H1 : Heap) (locs1 : List Loc), va_P D vwCl (xW cd ct L I ++ mW h ad ct ((f_X7_fault st).2)) H1 → va_D (fun q : Nat => s.heap.size ≤ q) (xW cd ct L I ++ mW h ad ct ((f_X7_fault st).2)) → va_S (fun q : Nat => s.heap.size ≤ q) s.heap H1 locs1 → W p l e room_1 s m #[Value.ref b] below meth c H1 locs1 35 1922 (lw_Z below #[Value.ref b] s) (F0 m 910 ls [])) :
    W p l e room_1 s m #[Value.ref b] below meth c H locs 35 1922 (lw_Z below #[Value.ref b] s) (F0 m 306 ls []) := by
  obtain ⟨hx, hb, hr, hml, hown, hts0, hX, hbl, hlocks, hgv⟩ := C0
  have hts : ∀ w ∈ wsL_law, w.before #[Value.ref b] s = true := fun w h => hts0 w (wsL_law_in w h)
  have hA : ∀ q : Nat, s.heap.size ≤ q → (fun q : Nat => s.heap.size ≤ q) q := fun _ h => h
  have hbA : ¬ (fun q : Nat => s.heap.size ≤ q) b := Nat.not_le.mpr hbl
  refine lv_aload_n hx hb dL_law_306 rfl (lv_at hl 2 rfl) ?_
  have hM := k_X6_fault l D ct z cd  L I hp.1
  refine lvX (As := []) (rest := []) (sk := [.int (f_X6_fault L I)]) ⟨hx, hb, hml, hown, hts⟩ hM gL_law_X6_fault kyX6_fault ⟨Nat.le_of_ble_eq_true rfl, Nat.le_of_ble_eq_true rfl⟩ rfl hK hP hD hS hA rfl hl.1 rfl rfl rfl ⟨Nat.le_of_ble_eq_true rfl, Nat.le_of_ble_eq_true rfl⟩ dL_law_307 (fun H locs hP hD hS => ?_)
  refine lv_aload_n hx hb dL_law_310 rfl (lv_at hl 1 rfl) ?_
  have hM := k_X7_fault l D ct z h ad  st hp.2.1
  refine lvM (As := []) (rest := [.int (f_X6_fault L I)]) (sk := [.int ((f_X7_fault st).1), .int (f_X6_fault L I)]) ⟨hx, hb, hml, hown, hts⟩ hM gL_law_X7_fault kyX7_fault ⟨Nat.le_of_ble_eq_true rfl, Nat.le_of_ble_eq_true rfl⟩ rfl hK hP hD hS hA rfl hl.1 rfl rfl rfl ⟨Nat.le_of_ble_eq_true rfl, Nat.le_of_ble_eq_true rfl⟩ dL_law_311 (fun H locs hP hD hS => ?_)
  refine lv_icmp_eq (tgt := 910) hx hb dL_law_314 (by decide) (fun _ => ?_) (fun c9 => absurd heq c9)
  exact kk H locs hP hD hS
set_option maxHeartbeats 4000000 in
set_option maxRecDepth 100000 in
theorem lw_c7 {p : Program} {l : Launch} {e : Env} {s : State} {m : MethodId} {below : List Frame} {meth : Method} {c : Code} {D : va_G} {ct : ClassId × ClassId × ClassId} {z : Nat × Nat} {b Ln : Nat} {xs : Nat → Int32} {cd ad : Nat → Nat} {h : Nat} {L : Nat → Nat → Int64} {I st : Nat → Nat → Int32} {i : Nat} {H : Heap} {locs : List Loc} {ls : Array Slot} (C0 : lw_At p s m meth c b Ln xs) (hK : kK D ct z (fun q : Nat => s.heap.size ≤ q) s) (hi : i + 6 ≤ Ln) (hLn : Ln ≤ 384) (hp : lwPre I st) (hl : lv_has ls 4 [(3, .int (nI i)), (2, .ref h), (1, .ref (cd 0)), (0, .ref b)]) (hP : va_P D vwCl (xW cd ct L I ++ mW h ad ct st) H) (hD : va_D (fun q : Nat => s.heap.size ≤ q) (xW cd ct L I ++ mW h ad ct st)) (hS : va_S (fun q : Nat => s.heap.size ≤ q) s.heap H locs)
    (heq : ((f_X6_judge (xs (Int32.toNatClampNeg (nI i + (1 : Int32)))) L I).1) = ((f_X7_judge (xs (Int32.toNatClampNeg (nI i + (1 : Int32)))) st).1))
    (kk : ∀ (H1 : Heap) (locs1 : List Loc), va_P D vwCl (xW cd ct ((f_X6_judge (xs (Int32.toNatClampNeg (nI i + (1 : Int32)))) L I).2.1) ((f_X6_judge (xs (Int32.toNatClampNeg (nI i + (1 : Int32)))) L I).2.2) ++ mW h ad ct ((f_X7_judge (xs (Int32.toNatClampNeg (nI i + (1 : Int32)))) st).2)) H1 → va_D (fun q : Nat => s.heap.size ≤ q) (xW cd ct ((f_X6_judge (xs (Int32.toNatClampNeg (nI i + (1 : Int32)))) L I).2.1) ((f_X6_judge (xs (Int32.toNatClampNeg (nI i + (1 : Int32)))) L I).2.2) ++ mW h ad ct ((f_X7_judge (xs (Int32.toNatClampNeg (nI i + (1 : Int32)))) st).2)) → va_S (fun q : Nat => s.heap.size ≤ q) s.heap H1 locs1 → W p l e room_1 s m #[Value.ref b] below meth c H1 locs1 35 1922 (lw_Z below #[Value.ref b] s) (F0 m 910 ls [])) :
    W p l e room_1 s m #[Value.ref b] below meth c H locs 35 1922 (lw_Z below #[Value.ref b] s) (F0 m 319 ls []) := by
  obtain ⟨hx, hb, hr, hml, hown, hts0, hX, hbl, hlocks, hgv⟩ := C0
  have hts : ∀ w ∈ wsL_law, w.before #[Value.ref b] s = true := fun w h => hts0 w (wsL_law_in w h)
  have hA : ∀ q : Nat, s.heap.size ≤ q → (fun q : Nat => s.heap.size ≤ q) q := fun _ h => h
  have hbA : ¬ (fun q : Nat => s.heap.size ≤ q) b := Nat.not_le.mpr hbl
  refine lv_aload_n hx hb dL_law_319 rfl (lv_at hl 2 rfl) ?_
  refine lv_aload_n hx hb dL_law_320 rfl (lv_at hl 3 rfl) ?_
  refine lv_iload_n hx hb dL_law_321 rfl (lv_at hl 0 rfl) ?_
  refine lv_iconst (v := (1 : Int32)) hx hb dL_law_322 (by decide) ?_
  refine lv_iadd hx hb dL_law_323 ?_
  refine va_sld hx hb hX hbl hbA hS (li 1 (by decide) (by omega) hLn) dL_law_324 ?_
  have hM := k_X6_judge l D ct z cd (xs (Int32.toNatClampNeg (nI i + (1 : Int32)))) L I hp.1
  refine lvX (As := [.int (xs (Int32.toNatClampNeg (nI i + (1 : Int32))))]) (rest := []) (sk := [.int ((f_X6_judge (xs (Int32.toNatClampNeg (nI i + (1 : Int32)))) L I).1)]) ⟨hx, hb, hml, hown, hts⟩ hM gL_law_X6_judge kyX6_judge ⟨Nat.le_of_ble_eq_true rfl, Nat.le_of_ble_eq_true rfl⟩ rfl hK hP hD hS hA rfl hl.1 rfl rfl rfl ⟨Nat.le_of_ble_eq_true rfl, Nat.le_of_ble_eq_true rfl⟩ dL_law_325 (fun H locs hP hD hS => ?_)
  refine lv_aload_n hx hb dL_law_328 rfl (lv_at hl 1 rfl) ?_
  refine lv_aload_n hx hb dL_law_329 rfl (lv_at hl 3 rfl) ?_
  refine lv_iload_n hx hb dL_law_330 rfl (lv_at hl 0 rfl) ?_
  refine lv_iconst (v := (1 : Int32)) hx hb dL_law_331 (by decide) ?_
  refine lv_iadd hx hb dL_law_332 ?_
  refine va_sld hx hb hX hbl hbA hS (li 1 (by decide) (by omega) hLn) dL_law_333 ?_
  have hM := k_X7_judge l D ct z h ad (xs (Int32.toNatClampNeg (nI i + (1 : Int32)))) st hp.2.1 hp.2.2.1
  refine lvM (As := [.int (xs (Int32.toNatClampNeg (nI i + (1 : Int32))))]) (rest := [.int ((f_X6_judge (xs (Int32.toNatClampNeg (nI i + (1 : Int32)))) L I).1)]) (sk := [.int ((f_X7_judge (xs (Int32.toNatClampNeg (nI i + (1 : Int32)))) st).1), .int ((f_X6_judge (xs (Int32.toNatClampNeg (nI i + (1 : Int32)))) L I).1)]) ⟨hx, hb, hml, hown, hts⟩ hM gL_law_X7_judge kyX7_judge ⟨Nat.le_of_ble_eq_true rfl, Nat.le_of_ble_eq_true rfl⟩ rfl hK hP hD hS hA rfl hl.1 rfl rfl rfl ⟨Nat.le_of_ble_eq_true rfl, Nat.le_of_ble_eq_true rfl⟩ dL_law_334 (fun H locs hP hD hS => ?_)
  refine lv_icmp_eq (tgt := 910) hx hb dL_law_337 (by decide) (fun _ => ?_) (fun c9 => absurd heq c9)
  exact kk H locs hP hD hS
set_option maxHeartbeats 4000000 in
set_option maxRecDepth 100000 in
theorem lw_c8 {p : Program} {l : Launch} {e : Env} {s : State} {m : MethodId} {below : List Frame} {meth : Method} {c : Code} {D : va_G} {ct : ClassId × ClassId × ClassId} {z : Nat × Nat} {b Ln : Nat} {xs : Nat → Int32} {cd ad : Nat → Nat} {h : Nat} {L : Nat → Nat → Int64} {I st : Nat → Nat → Int32} {i : Nat} {H : Heap} {locs : List Loc} {ls : Array Slot} (C0 : lw_At p s m meth c b Ln xs) (hK : kK D ct z (fun q : Nat => s.heap.size ≤ q) s) (hi : i + 6 ≤ Ln) (hLn : Ln ≤ 384) (hp : lwPre I st) (hl : lv_has ls 4 [(3, .int (nI i)), (2, .ref h), (1, .ref (cd 0)), (0, .ref b)]) (hP : va_P D vwCl (xW cd ct L I ++ mW h ad ct st) H) (hD : va_D (fun q : Nat => s.heap.size ≤ q) (xW cd ct L I ++ mW h ad ct st)) (hS : va_S (fun q : Nat => s.heap.size ≤ q) s.heap H locs)
    (heq : ((f_X6_behind (xs (Int32.toNatClampNeg (nI i + (1 : Int32)))) L I).1) = ((f_X7_behind (xs (Int32.toNatClampNeg (nI i + (1 : Int32)))) st).1))
    (kk : ∀ (H1 : Heap) (locs1 : List Loc), va_P D vwCl (xW cd ct ((f_X6_behind (xs (Int32.toNatClampNeg (nI i + (1 : Int32)))) L I).2.1) ((f_X6_behind (xs (Int32.toNatClampNeg (nI i + (1 : Int32)))) L I).2.2) ++ mW h ad ct ((f_X7_behind (xs (Int32.toNatClampNeg (nI i + (1 : Int32)))) st).2)) H1 → va_D (fun q : Nat => s.heap.size ≤ q) (xW cd ct ((f_X6_behind (xs (Int32.toNatClampNeg (nI i + (1 : Int32)))) L I).2.1) ((f_X6_behind (xs (Int32.toNatClampNeg (nI i + (1 : Int32)))) L I).2.2) ++ mW h ad ct ((f_X7_behind (xs (Int32.toNatClampNeg (nI i + (1 : Int32)))) st).2)) → va_S (fun q : Nat => s.heap.size ≤ q) s.heap H1 locs1 → W p l e room_1 s m #[Value.ref b] below meth c H1 locs1 35 1922 (lw_Z below #[Value.ref b] s) (F0 m 910 ls [])) :
    W p l e room_1 s m #[Value.ref b] below meth c H locs 35 1922 (lw_Z below #[Value.ref b] s) (F0 m 342 ls []) := by
  obtain ⟨hx, hb, hr, hml, hown, hts0, hX, hbl, hlocks, hgv⟩ := C0
  have hts : ∀ w ∈ wsL_law, w.before #[Value.ref b] s = true := fun w h => hts0 w (wsL_law_in w h)
  have hA : ∀ q : Nat, s.heap.size ≤ q → (fun q : Nat => s.heap.size ≤ q) q := fun _ h => h
  have hbA : ¬ (fun q : Nat => s.heap.size ≤ q) b := Nat.not_le.mpr hbl
  refine lv_aload_n hx hb dL_law_342 rfl (lv_at hl 2 rfl) ?_
  refine lv_aload_n hx hb dL_law_343 rfl (lv_at hl 3 rfl) ?_
  refine lv_iload_n hx hb dL_law_344 rfl (lv_at hl 0 rfl) ?_
  refine lv_iconst (v := (1 : Int32)) hx hb dL_law_345 (by decide) ?_
  refine lv_iadd hx hb dL_law_346 ?_
  refine va_sld hx hb hX hbl hbA hS (li 1 (by decide) (by omega) hLn) dL_law_347 ?_
  have hM := k_X6_behind l D ct z cd (xs (Int32.toNatClampNeg (nI i + (1 : Int32)))) L I hp.1
  refine lvX (As := [.int (xs (Int32.toNatClampNeg (nI i + (1 : Int32))))]) (rest := []) (sk := [.int ((f_X6_behind (xs (Int32.toNatClampNeg (nI i + (1 : Int32)))) L I).1)]) ⟨hx, hb, hml, hown, hts⟩ hM gL_law_X6_behind kyX6_behind ⟨Nat.le_of_ble_eq_true rfl, Nat.le_of_ble_eq_true rfl⟩ rfl hK hP hD hS hA rfl hl.1 rfl rfl rfl ⟨Nat.le_of_ble_eq_true rfl, Nat.le_of_ble_eq_true rfl⟩ dL_law_348 (fun H locs hP hD hS => ?_)
  refine lv_aload_n hx hb dL_law_351 rfl (lv_at hl 1 rfl) ?_
  refine lv_aload_n hx hb dL_law_352 rfl (lv_at hl 3 rfl) ?_
  refine lv_iload_n hx hb dL_law_353 rfl (lv_at hl 0 rfl) ?_
  refine lv_iconst (v := (1 : Int32)) hx hb dL_law_354 (by decide) ?_
  refine lv_iadd hx hb dL_law_355 ?_
  refine va_sld hx hb hX hbl hbA hS (li 1 (by decide) (by omega) hLn) dL_law_356 ?_
  have hM := k_X7_behind l D ct z h ad (xs (Int32.toNatClampNeg (nI i + (1 : Int32)))) st hp.2.1 hp.2.2.1
  refine lvM (As := [.int (xs (Int32.toNatClampNeg (nI i + (1 : Int32))))]) (rest := [.int ((f_X6_behind (xs (Int32.toNatClampNeg (nI i + (1 : Int32)))) L I).1)]) (sk := [.int ((f_X7_behind (xs (Int32.toNatClampNeg (nI i + (1 : Int32)))) st).1), .int ((f_X6_behind (xs (Int32.toNatClampNeg (nI i + (1 : Int32)))) L I).1)]) ⟨hx, hb, hml, hown, hts⟩ hM gL_law_X7_behind kyX7_behind ⟨Nat.le_of_ble_eq_true rfl, Nat.le_of_ble_eq_true rfl⟩ rfl hK hP hD hS hA rfl hl.1 rfl rfl rfl ⟨Nat.le_of_ble_eq_true rfl, Nat.le_of_ble_eq_true rfl⟩ dL_law_357 (fun H locs hP hD hS => ?_)
  refine lv_icmp_eq (tgt := 910) hx hb dL_law_360 (by decide) (fun _ => ?_) (fun c9 => absurd heq c9)
  exact kk H locs hP hD hS
set_option maxHeartbeats 4000000 in
set_option maxRecDepth 100000 in
theorem lw_c9 {p : Program} {l : Launch} {e : Env} {s : State} {m : MethodId} {below : List Frame} {meth : Method} {c : Code} {D : va_G} {ct : ClassId × ClassId × ClassId} {z : Nat × Nat} {b Ln : Nat} {xs : Nat → Int32} {cd ad : Nat → Nat} {h : Nat} {L : Nat → Nat → Int64} {I st : Nat → Nat → Int32} {i : Nat} {H : Heap} {locs : List Loc} {ls : Array Slot} (C0 : lw_At p s m meth c b Ln xs) (hK : kK D ct z (fun q : Nat => s.heap.size ≤ q) s) (hi : i + 6 ≤ Ln) (hLn : Ln ≤ 384) (hp : lwPre I st) (hl : lv_has ls 4 [(3, .int (nI i)), (2, .ref h), (1, .ref (cd 0)), (0, .ref b)]) (hP : va_P D vwCl (xW cd ct L I ++ mW h ad ct st) H) (hD : va_D (fun q : Nat => s.heap.size ≤ q) (xW cd ct L I ++ mW h ad ct st)) (hS : va_S (fun q : Nat => s.heap.size ≤ q) s.heap H locs)
    (heq : ((f_X6_seen (xs (Int32.toNatClampNeg (nI i + (1 : Int32)))) L I).1) = ((f_X7_seen (xs (Int32.toNatClampNeg (nI i + (1 : Int32)))) st).1))
    (kk : ∀ (H1 : Heap) (locs1 : List Loc), va_P D vwCl (xW cd ct ((f_X6_seen (xs (Int32.toNatClampNeg (nI i + (1 : Int32)))) L I).2.1) ((f_X6_seen (xs (Int32.toNatClampNeg (nI i + (1 : Int32)))) L I).2.2) ++ mW h ad ct ((f_X7_seen (xs (Int32.toNatClampNeg (nI i + (1 : Int32)))) st).2)) H1 → va_D (fun q : Nat => s.heap.size ≤ q) (xW cd ct ((f_X6_seen (xs (Int32.toNatClampNeg (nI i + (1 : Int32)))) L I).2.1) ((f_X6_seen (xs (Int32.toNatClampNeg (nI i + (1 : Int32)))) L I).2.2) ++ mW h ad ct ((f_X7_seen (xs (Int32.toNatClampNeg (nI i + (1 : Int32)))) st).2)) → va_S (fun q : Nat => s.heap.size ≤ q) s.heap H1 locs1 → W p l e room_1 s m #[Value.ref b] below meth c H1 locs1 35 1922 (lw_Z below #[Value.ref b] s) (F0 m 910 ls [])) :
    W p l e room_1 s m #[Value.ref b] below meth c H locs 35 1922 (lw_Z below #[Value.ref b] s) (F0 m 365 ls []) := by
  obtain ⟨hx, hb, hr, hml, hown, hts0, hX, hbl, hlocks, hgv⟩ := C0
  have hts : ∀ w ∈ wsL_law, w.before #[Value.ref b] s = true := fun w h => hts0 w (wsL_law_in w h)
  have hA : ∀ q : Nat, s.heap.size ≤ q → (fun q : Nat => s.heap.size ≤ q) q := fun _ h => h
  have hbA : ¬ (fun q : Nat => s.heap.size ≤ q) b := Nat.not_le.mpr hbl
  refine lv_aload_n hx hb dL_law_365 rfl (lv_at hl 2 rfl) ?_
  refine lv_aload_n hx hb dL_law_366 rfl (lv_at hl 3 rfl) ?_
  refine lv_iload_n hx hb dL_law_367 rfl (lv_at hl 0 rfl) ?_
  refine lv_iconst (v := (1 : Int32)) hx hb dL_law_368 (by decide) ?_
  refine lv_iadd hx hb dL_law_369 ?_
  refine va_sld hx hb hX hbl hbA hS (li 1 (by decide) (by omega) hLn) dL_law_370 ?_
  have hM := k_X6_seen l D ct z cd (xs (Int32.toNatClampNeg (nI i + (1 : Int32)))) L I hp.1
  refine lvX (As := [.int (xs (Int32.toNatClampNeg (nI i + (1 : Int32))))]) (rest := []) (sk := [.int ((f_X6_seen (xs (Int32.toNatClampNeg (nI i + (1 : Int32)))) L I).1)]) ⟨hx, hb, hml, hown, hts⟩ hM gL_law_X6_seen kyX6_seen ⟨Nat.le_of_ble_eq_true rfl, Nat.le_of_ble_eq_true rfl⟩ rfl hK hP hD hS hA rfl hl.1 rfl rfl rfl ⟨Nat.le_of_ble_eq_true rfl, Nat.le_of_ble_eq_true rfl⟩ dL_law_371 (fun H locs hP hD hS => ?_)
  refine lv_aload_n hx hb dL_law_374 rfl (lv_at hl 1 rfl) ?_
  refine lv_aload_n hx hb dL_law_375 rfl (lv_at hl 3 rfl) ?_
  refine lv_iload_n hx hb dL_law_376 rfl (lv_at hl 0 rfl) ?_
  refine lv_iconst (v := (1 : Int32)) hx hb dL_law_377 (by decide) ?_
  refine lv_iadd hx hb dL_law_378 ?_
  refine va_sld hx hb hX hbl hbA hS (li 1 (by decide) (by omega) hLn) dL_law_379 ?_
  have hM := k_X7_seen l D ct z h ad (xs (Int32.toNatClampNeg (nI i + (1 : Int32)))) st hp.2.1 hp.2.2.1
  refine lvM (As := [.int (xs (Int32.toNatClampNeg (nI i + (1 : Int32))))]) (rest := [.int ((f_X6_seen (xs (Int32.toNatClampNeg (nI i + (1 : Int32)))) L I).1)]) (sk := [.int ((f_X7_seen (xs (Int32.toNatClampNeg (nI i + (1 : Int32)))) st).1), .int ((f_X6_seen (xs (Int32.toNatClampNeg (nI i + (1 : Int32)))) L I).1)]) ⟨hx, hb, hml, hown, hts⟩ hM gL_law_X7_seen kyX7_seen ⟨Nat.le_of_ble_eq_true rfl, Nat.le_of_ble_eq_true rfl⟩ rfl hK hP hD hS hA rfl hl.1 rfl rfl rfl ⟨Nat.le_of_ble_eq_true rfl, Nat.le_of_ble_eq_true rfl⟩ dL_law_380 (fun H locs hP hD hS => ?_)
  refine lv_icmp_eq (tgt := 910) hx hb dL_law_383 (by decide) (fun _ => ?_) (fun c9 => absurd heq c9)
  exact kk H locs hP hD hS
set_option maxHeartbeats 4000000 in
set_option maxRecDepth 100000 in
theorem lw_c10 {p : Program} {l : Launch} {e : Env} {s : State} {m : MethodId} {below : List Frame} {meth : Method} {c : Code} {D : va_G} {ct : ClassId × ClassId × ClassId} {z : Nat × Nat} {b Ln : Nat} {xs : Nat → Int32} {cd ad : Nat → Nat} {h : Nat} {L : Nat → Nat → Int64} {I st : Nat → Nat → Int32} {i : Nat} {H : Heap} {locs : List Loc} {ls : Array Slot} (C0 : lw_At p s m meth c b Ln xs) (hK : kK D ct z (fun q : Nat => s.heap.size ≤ q) s) (hi : i + 6 ≤ Ln) (hLn : Ln ≤ 384) (hp : lwPre I st) (hl : lv_has ls 4 [(3, .int (nI i)), (2, .ref h), (1, .ref (cd 0)), (0, .ref b)]) (hP : va_P D vwCl (xW cd ct L I ++ mW h ad ct st) H) (hD : va_D (fun q : Nat => s.heap.size ≤ q) (xW cd ct L I ++ mW h ad ct st)) (hS : va_S (fun q : Nat => s.heap.size ≤ q) s.heap H locs)
    (heq : ((f_X6_silence (xs (Int32.toNatClampNeg (nI i + (1 : Int32)))) L I).1) = ((f_X7_silence (xs (Int32.toNatClampNeg (nI i + (1 : Int32)))) st).1))
    (kk : ∀ (H1 : Heap) (locs1 : List Loc), va_P D vwCl (xW cd ct ((f_X6_silence (xs (Int32.toNatClampNeg (nI i + (1 : Int32)))) L I).2.1) ((f_X6_silence (xs (Int32.toNatClampNeg (nI i + (1 : Int32)))) L I).2.2) ++ mW h ad ct ((f_X7_silence (xs (Int32.toNatClampNeg (nI i + (1 : Int32)))) st).2)) H1 → va_D (fun q : Nat => s.heap.size ≤ q) (xW cd ct ((f_X6_silence (xs (Int32.toNatClampNeg (nI i + (1 : Int32)))) L I).2.1) ((f_X6_silence (xs (Int32.toNatClampNeg (nI i + (1 : Int32)))) L I).2.2) ++ mW h ad ct ((f_X7_silence (xs (Int32.toNatClampNeg (nI i + (1 : Int32)))) st).2)) → va_S (fun q : Nat => s.heap.size ≤ q) s.heap H1 locs1 → W p l e room_1 s m #[Value.ref b] below meth c H1 locs1 35 1922 (lw_Z below #[Value.ref b] s) (F0 m 910 ls [])) :
    W p l e room_1 s m #[Value.ref b] below meth c H locs 35 1922 (lw_Z below #[Value.ref b] s) (F0 m 388 ls []) := by
  obtain ⟨hx, hb, hr, hml, hown, hts0, hX, hbl, hlocks, hgv⟩ := C0
  have hts : ∀ w ∈ wsL_law, w.before #[Value.ref b] s = true := fun w h => hts0 w (wsL_law_in w h)
  have hA : ∀ q : Nat, s.heap.size ≤ q → (fun q : Nat => s.heap.size ≤ q) q := fun _ h => h
  have hbA : ¬ (fun q : Nat => s.heap.size ≤ q) b := Nat.not_le.mpr hbl
  refine lv_aload_n hx hb dL_law_388 rfl (lv_at hl 2 rfl) ?_
  refine lv_aload_n hx hb dL_law_389 rfl (lv_at hl 3 rfl) ?_
  refine lv_iload_n hx hb dL_law_390 rfl (lv_at hl 0 rfl) ?_
  refine lv_iconst (v := (1 : Int32)) hx hb dL_law_391 (by decide) ?_
  refine lv_iadd hx hb dL_law_392 ?_
  refine va_sld hx hb hX hbl hbA hS (li 1 (by decide) (by omega) hLn) dL_law_393 ?_
  have hM := k_X6_silence l D ct z cd (xs (Int32.toNatClampNeg (nI i + (1 : Int32)))) L I hp.1
  refine lvX (As := [.int (xs (Int32.toNatClampNeg (nI i + (1 : Int32))))]) (rest := []) (sk := [.int ((f_X6_silence (xs (Int32.toNatClampNeg (nI i + (1 : Int32)))) L I).1)]) ⟨hx, hb, hml, hown, hts⟩ hM gL_law_X6_silence kyX6_silence ⟨Nat.le_of_ble_eq_true rfl, Nat.le_of_ble_eq_true rfl⟩ rfl hK hP hD hS hA rfl hl.1 rfl rfl rfl ⟨Nat.le_of_ble_eq_true rfl, Nat.le_of_ble_eq_true rfl⟩ dL_law_394 (fun H locs hP hD hS => ?_)
  refine lv_aload_n hx hb dL_law_397 rfl (lv_at hl 1 rfl) ?_
  refine lv_aload_n hx hb dL_law_398 rfl (lv_at hl 3 rfl) ?_
  refine lv_iload_n hx hb dL_law_399 rfl (lv_at hl 0 rfl) ?_
  refine lv_iconst (v := (1 : Int32)) hx hb dL_law_400 (by decide) ?_
  refine lv_iadd hx hb dL_law_401 ?_
  refine va_sld hx hb hX hbl hbA hS (li 1 (by decide) (by omega) hLn) dL_law_402 ?_
  have hM := k_X7_silence l D ct z h ad (xs (Int32.toNatClampNeg (nI i + (1 : Int32)))) st hp.2.1 hp.2.2.1
  refine lvM (As := [.int (xs (Int32.toNatClampNeg (nI i + (1 : Int32))))]) (rest := [.int ((f_X6_silence (xs (Int32.toNatClampNeg (nI i + (1 : Int32)))) L I).1)]) (sk := [.int ((f_X7_silence (xs (Int32.toNatClampNeg (nI i + (1 : Int32)))) st).1), .int ((f_X6_silence (xs (Int32.toNatClampNeg (nI i + (1 : Int32)))) L I).1)]) ⟨hx, hb, hml, hown, hts⟩ hM gL_law_X7_silence kyX7_silence ⟨Nat.le_of_ble_eq_true rfl, Nat.le_of_ble_eq_true rfl⟩ rfl hK hP hD hS hA rfl hl.1 rfl rfl rfl ⟨Nat.le_of_ble_eq_true rfl, Nat.le_of_ble_eq_true rfl⟩ dL_law_403 (fun H locs hP hD hS => ?_)
  refine lv_icmp_eq (tgt := 910) hx hb dL_law_406 (by decide) (fun _ => ?_) (fun c9 => absurd heq c9)
  exact kk H locs hP hD hS
set_option maxHeartbeats 4000000 in
set_option maxRecDepth 100000 in
theorem lw_c11 {p : Program} {l : Launch} {e : Env} {s : State} {m : MethodId} {below : List Frame} {meth : Method} {c : Code} {D : va_G} {ct : ClassId × ClassId × ClassId} {z : Nat × Nat} {b Ln : Nat} {xs : Nat → Int32} {cd ad : Nat → Nat} {h : Nat} {L : Nat → Nat → Int64} {I st : Nat → Nat → Int32} {i : Nat} {H : Heap} {locs : List Loc} {ls : Array Slot} (C0 : lw_At p s m meth c b Ln xs) (hK : kK D ct z (fun q : Nat => s.heap.size ≤ q) s) (hi : i + 6 ≤ Ln) (hLn : Ln ≤ 384) (hp : lwPre I st) (hl : lv_has ls 4 [(3, .int (nI i)), (2, .ref h), (1, .ref (cd 0)), (0, .ref b)]) (hP : va_P D vwCl (xW cd ct L I ++ mW h ad ct st) H) (hD : va_D (fun q : Nat => s.heap.size ≤ q) (xW cd ct L I ++ mW h ad ct st)) (hS : va_S (fun q : Nat => s.heap.size ≤ q) s.heap H locs)
    (heq : ((f_X6_done L I).1) = ((f_X7_done st).1))
    (kk : ∀ (H1 : Heap) (locs1 : List Loc), va_P D vwCl (xW cd ct ((f_X6_done L I).2.1) ((f_X6_done L I).2.2) ++ mW h ad ct ((f_X7_done st).2)) H1 → va_D (fun q : Nat => s.heap.size ≤ q) (xW cd ct ((f_X6_done L I).2.1) ((f_X6_done L I).2.2) ++ mW h ad ct ((f_X7_done st).2)) → va_S (fun q : Nat => s.heap.size ≤ q) s.heap H1 locs1 → W p l e room_1 s m #[Value.ref b] below meth c H1 locs1 35 1922 (lw_Z below #[Value.ref b] s) (F0 m 910 ls [])) :
    W p l e room_1 s m #[Value.ref b] below meth c H locs 35 1922 (lw_Z below #[Value.ref b] s) (F0 m 411 ls []) := by
  obtain ⟨hx, hb, hr, hml, hown, hts0, hX, hbl, hlocks, hgv⟩ := C0
  have hts : ∀ w ∈ wsL_law, w.before #[Value.ref b] s = true := fun w h => hts0 w (wsL_law_in w h)
  have hA : ∀ q : Nat, s.heap.size ≤ q → (fun q : Nat => s.heap.size ≤ q) q := fun _ h => h
  have hbA : ¬ (fun q : Nat => s.heap.size ≤ q) b := Nat.not_le.mpr hbl
  refine lv_aload_n hx hb dL_law_411 rfl (lv_at hl 2 rfl) ?_
  have hM := k_X6_done l D ct z cd  L I hp.1
  refine lvX (As := []) (rest := []) (sk := [.int ((f_X6_done L I).1)]) ⟨hx, hb, hml, hown, hts⟩ hM gL_law_X6_done kyX6_done ⟨Nat.le_of_ble_eq_true rfl, Nat.le_of_ble_eq_true rfl⟩ rfl hK hP hD hS hA rfl hl.1 rfl rfl rfl ⟨Nat.le_of_ble_eq_true rfl, Nat.le_of_ble_eq_true rfl⟩ dL_law_412 (fun H locs hP hD hS => ?_)
  refine lv_aload_n hx hb dL_law_415 rfl (lv_at hl 1 rfl) ?_
  have hM := k_X7_done l D ct z h ad  st hp.2.1 hp.2.2.1
  refine lvM (As := []) (rest := [.int ((f_X6_done L I).1)]) (sk := [.int ((f_X7_done st).1), .int ((f_X6_done L I).1)]) ⟨hx, hb, hml, hown, hts⟩ hM gL_law_X7_done kyX7_done ⟨Nat.le_of_ble_eq_true rfl, Nat.le_of_ble_eq_true rfl⟩ rfl hK hP hD hS hA rfl hl.1 rfl rfl rfl ⟨Nat.le_of_ble_eq_true rfl, Nat.le_of_ble_eq_true rfl⟩ dL_law_416 (fun H locs hP hD hS => ?_)
  refine lv_icmp_eq (tgt := 910) hx hb dL_law_419 (by decide) (fun _ => ?_) (fun c9 => absurd heq c9)
  exact kk H locs hP hD hS
set_option maxHeartbeats 4000000 in
set_option maxRecDepth 100000 in
theorem lw_c12 {p : Program} {l : Launch} {e : Env} {s : State} {m : MethodId} {below : List Frame} {meth : Method} {c : Code} {D : va_G} {ct : ClassId × ClassId × ClassId} {z : Nat × Nat} {b Ln : Nat} {xs : Nat → Int32} {cd ad : Nat → Nat} {h : Nat} {L : Nat → Nat → Int64} {I st : Nat → Nat → Int32} {i : Nat} {H : Heap} {locs : List Loc} {ls : Array Slot} (C0 : lw_At p s m meth c b Ln xs) (hK : kK D ct z (fun q : Nat => s.heap.size ≤ q) s) (hi : i + 6 ≤ Ln) (hLn : Ln ≤ 384) (hp : lwPre I st) (hl : lv_has ls 4 [(3, .int (nI i)), (2, .ref h), (1, .ref (cd 0)), (0, .ref b)]) (hP : va_P D vwCl (xW cd ct L I ++ mW h ad ct st) H) (hD : va_D (fun q : Nat => s.heap.size ≤ q) (xW cd ct L I ++ mW h ad ct st)) (hS : va_S (fun q : Nat => s.heap.size ≤ q) s.heap H locs)
    (heq : (f_X6_course (xs (Int32.toNatClampNeg (nI i + (1 : Int32)))) (xs (Int32.toNatClampNeg (nI i + (2 : Int32)))) (xs (Int32.toNatClampNeg (nI i + (3 : Int32)))) L I) = ((f_X7_course (xs (Int32.toNatClampNeg (nI i + (1 : Int32)))) (xs (Int32.toNatClampNeg (nI i + (2 : Int32)))) (xs (Int32.toNatClampNeg (nI i + (3 : Int32)))) st).1))
    (kk : ∀ (H1 : Heap) (locs1 : List Loc), va_P D vwCl (xW cd ct L I ++ mW h ad ct ((f_X7_course (xs (Int32.toNatClampNeg (nI i + (1 : Int32)))) (xs (Int32.toNatClampNeg (nI i + (2 : Int32)))) (xs (Int32.toNatClampNeg (nI i + (3 : Int32)))) st).2)) H1 → va_D (fun q : Nat => s.heap.size ≤ q) (xW cd ct L I ++ mW h ad ct ((f_X7_course (xs (Int32.toNatClampNeg (nI i + (1 : Int32)))) (xs (Int32.toNatClampNeg (nI i + (2 : Int32)))) (xs (Int32.toNatClampNeg (nI i + (3 : Int32)))) st).2)) → va_S (fun q : Nat => s.heap.size ≤ q) s.heap H1 locs1 → W p l e room_1 s m #[Value.ref b] below meth c H1 locs1 35 1922 (lw_Z below #[Value.ref b] s) (F0 m 910 ls [])) :
    W p l e room_1 s m #[Value.ref b] below meth c H locs 35 1922 (lw_Z below #[Value.ref b] s) (F0 m 424 ls []) := by
  obtain ⟨hx, hb, hr, hml, hown, hts0, hX, hbl, hlocks, hgv⟩ := C0
  have hts : ∀ w ∈ wsL_law, w.before #[Value.ref b] s = true := fun w h => hts0 w (wsL_law_in w h)
  have hA : ∀ q : Nat, s.heap.size ≤ q → (fun q : Nat => s.heap.size ≤ q) q := fun _ h => h
  have hbA : ¬ (fun q : Nat => s.heap.size ≤ q) b := Nat.not_le.mpr hbl
  refine lv_aload_n hx hb dL_law_424 rfl (lv_at hl 2 rfl) ?_
  refine lv_aload_n hx hb dL_law_425 rfl (lv_at hl 3 rfl) ?_
  refine lv_iload_n hx hb dL_law_426 rfl (lv_at hl 0 rfl) ?_
  refine lv_iconst (v := (1 : Int32)) hx hb dL_law_427 (by decide) ?_
  refine lv_iadd hx hb dL_law_428 ?_
  refine va_sld hx hb hX hbl hbA hS (li 1 (by decide) (by omega) hLn) dL_law_429 ?_
  refine lv_aload_n hx hb dL_law_430 rfl (lv_at hl 3 rfl) ?_
  refine lv_iload_n hx hb dL_law_431 rfl (lv_at hl 0 rfl) ?_
  refine lv_iconst (v := (2 : Int32)) hx hb dL_law_432 (by decide) ?_
  refine lv_iadd hx hb dL_law_433 ?_
  refine va_sld hx hb hX hbl hbA hS (li 2 (by decide) (by omega) hLn) dL_law_434 ?_
  refine lv_aload_n hx hb dL_law_435 rfl (lv_at hl 3 rfl) ?_
  refine lv_iload_n hx hb dL_law_436 rfl (lv_at hl 0 rfl) ?_
  refine lv_iconst (v := (3 : Int32)) hx hb dL_law_437 (by decide) ?_
  refine lv_iadd hx hb dL_law_438 ?_
  refine va_sld hx hb hX hbl hbA hS (li 3 (by decide) (by omega) hLn) dL_law_439 ?_
  have hM := k_X6_course l D ct z cd (xs (Int32.toNatClampNeg (nI i + (1 : Int32)))) (xs (Int32.toNatClampNeg (nI i + (2 : Int32)))) (xs (Int32.toNatClampNeg (nI i + (3 : Int32)))) L I 
  refine lvX (As := [.int (xs (Int32.toNatClampNeg (nI i + (1 : Int32)))), .int (xs (Int32.toNatClampNeg (nI i + (2 : Int32)))), .int (xs (Int32.toNatClampNeg (nI i + (3 : Int32))))]) (rest := []) (sk := [.int (f_X6_course (xs (Int32.toNatClampNeg (nI i + (1 : Int32)))) (xs (Int32.toNatClampNeg (nI i + (2 : Int32)))) (xs (Int32.toNatClampNeg (nI i + (3 : Int32)))) L I)]) ⟨hx, hb, hml, hown, hts⟩ hM gL_law_X6_course kyX6_course ⟨Nat.le_of_ble_eq_true rfl, Nat.le_of_ble_eq_true rfl⟩ rfl hK hP hD hS hA rfl hl.1 rfl rfl rfl ⟨Nat.le_of_ble_eq_true rfl, Nat.le_of_ble_eq_true rfl⟩ dL_law_440 (fun H locs hP hD hS => ?_)
  refine lv_aload_n hx hb dL_law_443 rfl (lv_at hl 1 rfl) ?_
  refine lv_aload_n hx hb dL_law_444 rfl (lv_at hl 3 rfl) ?_
  refine lv_iload_n hx hb dL_law_445 rfl (lv_at hl 0 rfl) ?_
  refine lv_iconst (v := (1 : Int32)) hx hb dL_law_446 (by decide) ?_
  refine lv_iadd hx hb dL_law_447 ?_
  refine va_sld hx hb hX hbl hbA hS (li 1 (by decide) (by omega) hLn) dL_law_448 ?_
  refine lv_aload_n hx hb dL_law_449 rfl (lv_at hl 3 rfl) ?_
  refine lv_iload_n hx hb dL_law_450 rfl (lv_at hl 0 rfl) ?_
  refine lv_iconst (v := (2 : Int32)) hx hb dL_law_451 (by decide) ?_
  refine lv_iadd hx hb dL_law_452 ?_
  refine va_sld hx hb hX hbl hbA hS (li 2 (by decide) (by omega) hLn) dL_law_453 ?_
  refine lv_aload_n hx hb dL_law_454 rfl (lv_at hl 3 rfl) ?_
  refine lv_iload_n hx hb dL_law_455 rfl (lv_at hl 0 rfl) ?_
  refine lv_iconst (v := (3 : Int32)) hx hb dL_law_456 (by decide) ?_
  refine lv_iadd hx hb dL_law_457 ?_
  refine va_sld hx hb hX hbl hbA hS (li 3 (by decide) (by omega) hLn) dL_law_458 ?_
  have hM := k_X7_course l D ct z h ad (xs (Int32.toNatClampNeg (nI i + (1 : Int32)))) (xs (Int32.toNatClampNeg (nI i + (2 : Int32)))) (xs (Int32.toNatClampNeg (nI i + (3 : Int32)))) st 
  refine lvM (As := [.int (xs (Int32.toNatClampNeg (nI i + (1 : Int32)))), .int (xs (Int32.toNatClampNeg (nI i + (2 : Int32)))), .int (xs (Int32.toNatClampNeg (nI i + (3 : Int32))))]) (rest := [.int (f_X6_course (xs (Int32.toNatClampNeg (nI i + (1 : Int32)))) (xs (Int32.toNatClampNeg (nI i + (2 : Int32)))) (xs (Int32.toNatClampNeg (nI i + (3 : Int32)))) L I)]) (sk := [.int ((f_X7_course (xs (Int32.toNatClampNeg (nI i + (1 : Int32)))) (xs (Int32.toNatClampNeg (nI i + (2 : Int32)))) (xs (Int32.toNatClampNeg (nI i + (3 : Int32)))) st).1), .int (f_X6_course (xs (Int32.toNatClampNeg (nI i + (1 : Int32)))) (xs (Int32.toNatClampNeg (nI i + (2 : Int32)))) (xs (Int32.toNatClampNeg (nI i + (3 : Int32)))) L I)]) ⟨hx, hb, hml, hown, hts⟩ hM gL_law_X7_course kyX7_course ⟨Nat.le_of_ble_eq_true rfl, Nat.le_of_ble_eq_true rfl⟩ rfl hK hP hD hS hA rfl hl.1 rfl rfl rfl ⟨Nat.le_of_ble_eq_true rfl, Nat.le_of_ble_eq_true rfl⟩ dL_law_459 (fun H locs hP hD hS => ?_)
  refine lv_icmp_eq (tgt := 910) hx hb dL_law_462 (by decide) (fun _ => ?_) (fun c9 => absurd heq c9)
  exact kk H locs hP hD hS
set_option maxHeartbeats 4000000 in
set_option maxRecDepth 100000 in
theorem lw_c13 {p : Program} {l : Launch} {e : Env} {s : State} {m : MethodId} {below : List Frame} {meth : Method} {c : Code} {D : va_G} {ct : ClassId × ClassId × ClassId} {z : Nat × Nat} {b Ln : Nat} {xs : Nat → Int32} {cd ad : Nat → Nat} {h : Nat} {L : Nat → Nat → Int64} {I st : Nat → Nat → Int32} {i : Nat} {H : Heap} {locs : List Loc} {ls : Array Slot} (C0 : lw_At p s m meth c b Ln xs) (hK : kK D ct z (fun q : Nat => s.heap.size ≤ q) s) (hi : i + 6 ≤ Ln) (hLn : Ln ≤ 384) (hp : lwPre I st) (hl : lv_has ls 4 [(3, .int (nI i)), (2, .ref h), (1, .ref (cd 0)), (0, .ref b)]) (hP : va_P D vwCl (xW cd ct L I ++ mW h ad ct st) H) (hD : va_D (fun q : Nat => s.heap.size ≤ q) (xW cd ct L I ++ mW h ad ct st)) (hS : va_S (fun q : Nat => s.heap.size ≤ q) s.heap H locs)
    (heq : (f_X6_cross (xs (Int32.toNatClampNeg (nI i + (1 : Int32)))) (xs (Int32.toNatClampNeg (nI i + (2 : Int32)))) (xs (Int32.toNatClampNeg (nI i + (3 : Int32)))) (xs (Int32.toNatClampNeg (nI i + (4 : Int32)))) (xs (Int32.toNatClampNeg (nI i + (5 : Int32)))) L I) = (f_X7_cross (xs (Int32.toNatClampNeg (nI i + (1 : Int32)))) (xs (Int32.toNatClampNeg (nI i + (2 : Int32)))) (xs (Int32.toNatClampNeg (nI i + (3 : Int32)))) (xs (Int32.toNatClampNeg (nI i + (4 : Int32)))) (xs (Int32.toNatClampNeg (nI i + (5 : Int32)))) st))
    (kk : ∀ (H1 : Heap) (locs1 : List Loc), va_P D vwCl (xW cd ct L I ++ mW h ad ct st) H1 → va_D (fun q : Nat => s.heap.size ≤ q) (xW cd ct L I ++ mW h ad ct st) → va_S (fun q : Nat => s.heap.size ≤ q) s.heap H1 locs1 → W p l e room_1 s m #[Value.ref b] below meth c H1 locs1 35 1922 (lw_Z below #[Value.ref b] s) (F0 m 910 ls [])) :
    W p l e room_1 s m #[Value.ref b] below meth c H locs 35 1922 (lw_Z below #[Value.ref b] s) (F0 m 467 ls []) := by
  obtain ⟨hx, hb, hr, hml, hown, hts0, hX, hbl, hlocks, hgv⟩ := C0
  have hts : ∀ w ∈ wsL_law, w.before #[Value.ref b] s = true := fun w h => hts0 w (wsL_law_in w h)
  have hA : ∀ q : Nat, s.heap.size ≤ q → (fun q : Nat => s.heap.size ≤ q) q := fun _ h => h
  have hbA : ¬ (fun q : Nat => s.heap.size ≤ q) b := Nat.not_le.mpr hbl
  refine lv_aload_n hx hb dL_law_467 rfl (lv_at hl 2 rfl) ?_
  refine lv_aload_n hx hb dL_law_468 rfl (lv_at hl 3 rfl) ?_
  refine lv_iload_n hx hb dL_law_469 rfl (lv_at hl 0 rfl) ?_
  refine lv_iconst (v := (1 : Int32)) hx hb dL_law_470 (by decide) ?_
  refine lv_iadd hx hb dL_law_471 ?_
  refine va_sld hx hb hX hbl hbA hS (li 1 (by decide) (by omega) hLn) dL_law_472 ?_
  refine lv_aload_n hx hb dL_law_473 rfl (lv_at hl 3 rfl) ?_
  refine lv_iload_n hx hb dL_law_474 rfl (lv_at hl 0 rfl) ?_
  refine lv_iconst (v := (2 : Int32)) hx hb dL_law_475 (by decide) ?_
  refine lv_iadd hx hb dL_law_476 ?_
  refine va_sld hx hb hX hbl hbA hS (li 2 (by decide) (by omega) hLn) dL_law_477 ?_
  refine lv_aload_n hx hb dL_law_478 rfl (lv_at hl 3 rfl) ?_
  refine lv_iload_n hx hb dL_law_479 rfl (lv_at hl 0 rfl) ?_
  refine lv_iconst (v := (3 : Int32)) hx hb dL_law_480 (by decide) ?_
  refine lv_iadd hx hb dL_law_481 ?_
  refine va_sld hx hb hX hbl hbA hS (li 3 (by decide) (by omega) hLn) dL_law_482 ?_
  refine lv_aload_n hx hb dL_law_483 rfl (lv_at hl 3 rfl) ?_
  refine lv_iload_n hx hb dL_law_484 rfl (lv_at hl 0 rfl) ?_
  refine lv_iconst (v := (4 : Int32)) hx hb dL_law_485 (by decide) ?_
  refine lv_iadd hx hb dL_law_486 ?_
  refine va_sld hx hb hX hbl hbA hS (li 4 (by decide) (by omega) hLn) dL_law_487 ?_
  refine lv_aload_n hx hb dL_law_488 rfl (lv_at hl 3 rfl) ?_
  refine lv_iload_n hx hb dL_law_489 rfl (lv_at hl 0 rfl) ?_
  refine lv_iconst (v := (5 : Int32)) hx hb dL_law_490 (by decide) ?_
  refine lv_iadd hx hb dL_law_491 ?_
  refine va_sld hx hb hX hbl hbA hS (li 5 (by decide) (by omega) hLn) dL_law_492 ?_
  have hM := k_X6_cross l D ct z cd (xs (Int32.toNatClampNeg (nI i + (1 : Int32)))) (xs (Int32.toNatClampNeg (nI i + (2 : Int32)))) (xs (Int32.toNatClampNeg (nI i + (3 : Int32)))) (xs (Int32.toNatClampNeg (nI i + (4 : Int32)))) (xs (Int32.toNatClampNeg (nI i + (5 : Int32)))) L I 
  refine lvX (As := [.int (xs (Int32.toNatClampNeg (nI i + (1 : Int32)))), .int (xs (Int32.toNatClampNeg (nI i + (2 : Int32)))), .int (xs (Int32.toNatClampNeg (nI i + (3 : Int32)))), .int (xs (Int32.toNatClampNeg (nI i + (4 : Int32)))), .int (xs (Int32.toNatClampNeg (nI i + (5 : Int32))))]) (rest := []) (sk := [.int (f_X6_cross (xs (Int32.toNatClampNeg (nI i + (1 : Int32)))) (xs (Int32.toNatClampNeg (nI i + (2 : Int32)))) (xs (Int32.toNatClampNeg (nI i + (3 : Int32)))) (xs (Int32.toNatClampNeg (nI i + (4 : Int32)))) (xs (Int32.toNatClampNeg (nI i + (5 : Int32)))) L I)]) ⟨hx, hb, hml, hown, hts⟩ hM gL_law_X6_cross kyX6_cross ⟨Nat.le_of_ble_eq_true rfl, Nat.le_of_ble_eq_true rfl⟩ rfl hK hP hD hS hA rfl hl.1 rfl rfl rfl ⟨Nat.le_of_ble_eq_true rfl, Nat.le_of_ble_eq_true rfl⟩ dL_law_493 (fun H locs hP hD hS => ?_)
  refine lv_aload_n hx hb dL_law_496 rfl (lv_at hl 1 rfl) ?_
  refine lv_aload_n hx hb dL_law_497 rfl (lv_at hl 3 rfl) ?_
  refine lv_iload_n hx hb dL_law_498 rfl (lv_at hl 0 rfl) ?_
  refine lv_iconst (v := (1 : Int32)) hx hb dL_law_499 (by decide) ?_
  refine lv_iadd hx hb dL_law_500 ?_
  refine va_sld hx hb hX hbl hbA hS (li 1 (by decide) (by omega) hLn) dL_law_501 ?_
  refine lv_aload_n hx hb dL_law_502 rfl (lv_at hl 3 rfl) ?_
  refine lv_iload_n hx hb dL_law_503 rfl (lv_at hl 0 rfl) ?_
  refine lv_iconst (v := (2 : Int32)) hx hb dL_law_504 (by decide) ?_
  refine lv_iadd hx hb dL_law_505 ?_
  refine va_sld hx hb hX hbl hbA hS (li 2 (by decide) (by omega) hLn) dL_law_506 ?_
  refine lv_aload_n hx hb dL_law_507 rfl (lv_at hl 3 rfl) ?_
  refine lv_iload_n hx hb dL_law_508 rfl (lv_at hl 0 rfl) ?_
  refine lv_iconst (v := (3 : Int32)) hx hb dL_law_509 (by decide) ?_
  refine lv_iadd hx hb dL_law_510 ?_
  refine va_sld hx hb hX hbl hbA hS (li 3 (by decide) (by omega) hLn) dL_law_511 ?_
  refine lv_aload_n hx hb dL_law_512 rfl (lv_at hl 3 rfl) ?_
  refine lv_iload_n hx hb dL_law_513 rfl (lv_at hl 0 rfl) ?_
  refine lv_iconst (v := (4 : Int32)) hx hb dL_law_514 (by decide) ?_
  refine lv_iadd hx hb dL_law_515 ?_
  refine va_sld hx hb hX hbl hbA hS (li 4 (by decide) (by omega) hLn) dL_law_516 ?_
  refine lv_aload_n hx hb dL_law_517 rfl (lv_at hl 3 rfl) ?_
  refine lv_iload_n hx hb dL_law_518 rfl (lv_at hl 0 rfl) ?_
  refine lv_iconst (v := (5 : Int32)) hx hb dL_law_519 (by decide) ?_
  refine lv_iadd hx hb dL_law_520 ?_
  refine va_sld hx hb hX hbl hbA hS (li 5 (by decide) (by omega) hLn) dL_law_521 ?_
  have hM := k_X7_cross l D ct z h ad (xs (Int32.toNatClampNeg (nI i + (1 : Int32)))) (xs (Int32.toNatClampNeg (nI i + (2 : Int32)))) (xs (Int32.toNatClampNeg (nI i + (3 : Int32)))) (xs (Int32.toNatClampNeg (nI i + (4 : Int32)))) (xs (Int32.toNatClampNeg (nI i + (5 : Int32)))) st 
  refine lvM (As := [.int (xs (Int32.toNatClampNeg (nI i + (1 : Int32)))), .int (xs (Int32.toNatClampNeg (nI i + (2 : Int32)))), .int (xs (Int32.toNatClampNeg (nI i + (3 : Int32)))), .int (xs (Int32.toNatClampNeg (nI i + (4 : Int32)))), .int (xs (Int32.toNatClampNeg (nI i + (5 : Int32))))]) (rest := [.int (f_X6_cross (xs (Int32.toNatClampNeg (nI i + (1 : Int32)))) (xs (Int32.toNatClampNeg (nI i + (2 : Int32)))) (xs (Int32.toNatClampNeg (nI i + (3 : Int32)))) (xs (Int32.toNatClampNeg (nI i + (4 : Int32)))) (xs (Int32.toNatClampNeg (nI i + (5 : Int32)))) L I)]) (sk := [.int (f_X7_cross (xs (Int32.toNatClampNeg (nI i + (1 : Int32)))) (xs (Int32.toNatClampNeg (nI i + (2 : Int32)))) (xs (Int32.toNatClampNeg (nI i + (3 : Int32)))) (xs (Int32.toNatClampNeg (nI i + (4 : Int32)))) (xs (Int32.toNatClampNeg (nI i + (5 : Int32)))) st), .int (f_X6_cross (xs (Int32.toNatClampNeg (nI i + (1 : Int32)))) (xs (Int32.toNatClampNeg (nI i + (2 : Int32)))) (xs (Int32.toNatClampNeg (nI i + (3 : Int32)))) (xs (Int32.toNatClampNeg (nI i + (4 : Int32)))) (xs (Int32.toNatClampNeg (nI i + (5 : Int32)))) L I)]) ⟨hx, hb, hml, hown, hts⟩ hM gL_law_X7_cross kyX7_cross ⟨Nat.le_of_ble_eq_true rfl, Nat.le_of_ble_eq_true rfl⟩ rfl hK hP hD hS hA rfl hl.1 rfl rfl rfl ⟨Nat.le_of_ble_eq_true rfl, Nat.le_of_ble_eq_true rfl⟩ dL_law_522 (fun H locs hP hD hS => ?_)
  refine lv_icmp_eq (tgt := 910) hx hb dL_law_525 (by decide) (fun _ => ?_) (fun c9 => absurd heq c9)
  exact kk H locs hP hD hS
set_option maxHeartbeats 4000000 in
set_option maxRecDepth 100000 in
theorem lw_c14 {p : Program} {l : Launch} {e : Env} {s : State} {m : MethodId} {below : List Frame} {meth : Method} {c : Code} {D : va_G} {ct : ClassId × ClassId × ClassId} {z : Nat × Nat} {b Ln : Nat} {xs : Nat → Int32} {cd ad : Nat → Nat} {h : Nat} {L : Nat → Nat → Int64} {I st : Nat → Nat → Int32} {i : Nat} {H : Heap} {locs : List Loc} {ls : Array Slot} (C0 : lw_At p s m meth c b Ln xs) (hK : kK D ct z (fun q : Nat => s.heap.size ≤ q) s) (hi : i + 6 ≤ Ln) (hLn : Ln ≤ 384) (hp : lwPre I st) (hl : lv_has ls 4 [(3, .int (nI i)), (2, .ref h), (1, .ref (cd 0)), (0, .ref b)]) (hP : va_P D vwCl (xW cd ct L I ++ mW h ad ct st) H) (hD : va_D (fun q : Nat => s.heap.size ≤ q) (xW cd ct L I ++ mW h ad ct st)) (hS : va_S (fun q : Nat => s.heap.size ≤ q) s.heap H locs)
    (heq : ((f_X6_ropes (xs (Int32.toNatClampNeg (nI i + (1 : Int32)))) (xs (Int32.toNatClampNeg (nI i + (2 : Int32)))) (xs (Int32.toNatClampNeg (nI i + (3 : Int32)))) (xs (Int32.toNatClampNeg (nI i + (4 : Int32)))) L I).1) = ((f_X7_ropes (xs (Int32.toNatClampNeg (nI i + (1 : Int32)))) (xs (Int32.toNatClampNeg (nI i + (2 : Int32)))) (xs (Int32.toNatClampNeg (nI i + (3 : Int32)))) (xs (Int32.toNatClampNeg (nI i + (4 : Int32)))) st).1))
    (kk : ∀ (H1 : Heap) (locs1 : List Loc), va_P D vwCl (xW cd ct L ((f_X6_ropes (xs (Int32.toNatClampNeg (nI i + (1 : Int32)))) (xs (Int32.toNatClampNeg (nI i + (2 : Int32)))) (xs (Int32.toNatClampNeg (nI i + (3 : Int32)))) (xs (Int32.toNatClampNeg (nI i + (4 : Int32)))) L I).2) ++ mW h ad ct ((f_X7_ropes (xs (Int32.toNatClampNeg (nI i + (1 : Int32)))) (xs (Int32.toNatClampNeg (nI i + (2 : Int32)))) (xs (Int32.toNatClampNeg (nI i + (3 : Int32)))) (xs (Int32.toNatClampNeg (nI i + (4 : Int32)))) st).2)) H1 → va_D (fun q : Nat => s.heap.size ≤ q) (xW cd ct L ((f_X6_ropes (xs (Int32.toNatClampNeg (nI i + (1 : Int32)))) (xs (Int32.toNatClampNeg (nI i + (2 : Int32)))) (xs (Int32.toNatClampNeg (nI i + (3 : Int32)))) (xs (Int32.toNatClampNeg (nI i + (4 : Int32)))) L I).2) ++ mW h ad ct ((f_X7_ropes (xs (Int32.toNatClampNeg (nI i + (1 : Int32)))) (xs (Int32.toNatClampNeg (nI i + (2 : Int32)))) (xs (Int32.toNatClampNeg (nI i + (3 : Int32)))) (xs (Int32.toNatClampNeg (nI i + (4 : Int32)))) st).2)) → va_S (fun q : Nat => s.heap.size ≤ q) s.heap H1 locs1 → W p l e room_1 s m #[Value.ref b] below meth c H1 locs1 35 1922 (lw_Z below #[Value.ref b] s) (F0 m 910 ls [])) :
    W p l e room_1 s m #[Value.ref b] below meth c H locs 35 1922 (lw_Z below #[Value.ref b] s) (F0 m 530 ls []) := by
  obtain ⟨hx, hb, hr, hml, hown, hts0, hX, hbl, hlocks, hgv⟩ := C0
  have hts : ∀ w ∈ wsL_law, w.before #[Value.ref b] s = true := fun w h => hts0 w (wsL_law_in w h)
  have hA : ∀ q : Nat, s.heap.size ≤ q → (fun q : Nat => s.heap.size ≤ q) q := fun _ h => h
  have hbA : ¬ (fun q : Nat => s.heap.size ≤ q) b := Nat.not_le.mpr hbl
  refine lv_aload_n hx hb dL_law_530 rfl (lv_at hl 2 rfl) ?_
  refine lv_aload_n hx hb dL_law_531 rfl (lv_at hl 3 rfl) ?_
  refine lv_iload_n hx hb dL_law_532 rfl (lv_at hl 0 rfl) ?_
  refine lv_iconst (v := (1 : Int32)) hx hb dL_law_533 (by decide) ?_
  refine lv_iadd hx hb dL_law_534 ?_
  refine va_sld hx hb hX hbl hbA hS (li 1 (by decide) (by omega) hLn) dL_law_535 ?_
  refine lv_aload_n hx hb dL_law_536 rfl (lv_at hl 3 rfl) ?_
  refine lv_iload_n hx hb dL_law_537 rfl (lv_at hl 0 rfl) ?_
  refine lv_iconst (v := (2 : Int32)) hx hb dL_law_538 (by decide) ?_
  refine lv_iadd hx hb dL_law_539 ?_
  refine va_sld hx hb hX hbl hbA hS (li 2 (by decide) (by omega) hLn) dL_law_540 ?_
  refine lv_aload_n hx hb dL_law_541 rfl (lv_at hl 3 rfl) ?_
  refine lv_iload_n hx hb dL_law_542 rfl (lv_at hl 0 rfl) ?_
  refine lv_iconst (v := (3 : Int32)) hx hb dL_law_543 (by decide) ?_
  refine lv_iadd hx hb dL_law_544 ?_
  refine va_sld hx hb hX hbl hbA hS (li 3 (by decide) (by omega) hLn) dL_law_545 ?_
  refine lv_aload_n hx hb dL_law_546 rfl (lv_at hl 3 rfl) ?_
  refine lv_iload_n hx hb dL_law_547 rfl (lv_at hl 0 rfl) ?_
  refine lv_iconst (v := (4 : Int32)) hx hb dL_law_548 (by decide) ?_
  refine lv_iadd hx hb dL_law_549 ?_
  refine va_sld hx hb hX hbl hbA hS (li 4 (by decide) (by omega) hLn) dL_law_550 ?_
  have hM := k_X6_ropes l D ct z cd (xs (Int32.toNatClampNeg (nI i + (1 : Int32)))) (xs (Int32.toNatClampNeg (nI i + (2 : Int32)))) (xs (Int32.toNatClampNeg (nI i + (3 : Int32)))) (xs (Int32.toNatClampNeg (nI i + (4 : Int32)))) L I 
  refine lvX (As := [.int (xs (Int32.toNatClampNeg (nI i + (1 : Int32)))), .int (xs (Int32.toNatClampNeg (nI i + (2 : Int32)))), .int (xs (Int32.toNatClampNeg (nI i + (3 : Int32)))), .int (xs (Int32.toNatClampNeg (nI i + (4 : Int32))))]) (rest := []) (sk := [.int ((f_X6_ropes (xs (Int32.toNatClampNeg (nI i + (1 : Int32)))) (xs (Int32.toNatClampNeg (nI i + (2 : Int32)))) (xs (Int32.toNatClampNeg (nI i + (3 : Int32)))) (xs (Int32.toNatClampNeg (nI i + (4 : Int32)))) L I).1)]) ⟨hx, hb, hml, hown, hts⟩ hM gL_law_X6_ropes kyX6_ropes ⟨Nat.le_of_ble_eq_true rfl, Nat.le_of_ble_eq_true rfl⟩ rfl hK hP hD hS hA rfl hl.1 rfl rfl rfl ⟨Nat.le_of_ble_eq_true rfl, Nat.le_of_ble_eq_true rfl⟩ dL_law_551 (fun H locs hP hD hS => ?_)
  refine lv_aload_n hx hb dL_law_554 rfl (lv_at hl 1 rfl) ?_
  refine lv_aload_n hx hb dL_law_555 rfl (lv_at hl 3 rfl) ?_
  refine lv_iload_n hx hb dL_law_556 rfl (lv_at hl 0 rfl) ?_
  refine lv_iconst (v := (1 : Int32)) hx hb dL_law_557 (by decide) ?_
  refine lv_iadd hx hb dL_law_558 ?_
  refine va_sld hx hb hX hbl hbA hS (li 1 (by decide) (by omega) hLn) dL_law_559 ?_
  refine lv_aload_n hx hb dL_law_560 rfl (lv_at hl 3 rfl) ?_
  refine lv_iload_n hx hb dL_law_561 rfl (lv_at hl 0 rfl) ?_
  refine lv_iconst (v := (2 : Int32)) hx hb dL_law_562 (by decide) ?_
  refine lv_iadd hx hb dL_law_563 ?_
  refine va_sld hx hb hX hbl hbA hS (li 2 (by decide) (by omega) hLn) dL_law_564 ?_
  refine lv_aload_n hx hb dL_law_565 rfl (lv_at hl 3 rfl) ?_
  refine lv_iload_n hx hb dL_law_566 rfl (lv_at hl 0 rfl) ?_
  refine lv_iconst (v := (3 : Int32)) hx hb dL_law_567 (by decide) ?_
  refine lv_iadd hx hb dL_law_568 ?_
  refine va_sld hx hb hX hbl hbA hS (li 3 (by decide) (by omega) hLn) dL_law_569 ?_
  refine lv_aload_n hx hb dL_law_570 rfl (lv_at hl 3 rfl) ?_
  refine lv_iload_n hx hb dL_law_571 rfl (lv_at hl 0 rfl) ?_
  refine lv_iconst (v := (4 : Int32)) hx hb dL_law_572 (by decide) ?_
  refine lv_iadd hx hb dL_law_573 ?_
  refine va_sld hx hb hX hbl hbA hS (li 4 (by decide) (by omega) hLn) dL_law_574 ?_
  have hM := k_X7_ropes l D ct z h ad (xs (Int32.toNatClampNeg (nI i + (1 : Int32)))) (xs (Int32.toNatClampNeg (nI i + (2 : Int32)))) (xs (Int32.toNatClampNeg (nI i + (3 : Int32)))) (xs (Int32.toNatClampNeg (nI i + (4 : Int32)))) st 
  refine lvM (As := [.int (xs (Int32.toNatClampNeg (nI i + (1 : Int32)))), .int (xs (Int32.toNatClampNeg (nI i + (2 : Int32)))), .int (xs (Int32.toNatClampNeg (nI i + (3 : Int32)))), .int (xs (Int32.toNatClampNeg (nI i + (4 : Int32))))]) (rest := [.int ((f_X6_ropes (xs (Int32.toNatClampNeg (nI i + (1 : Int32)))) (xs (Int32.toNatClampNeg (nI i + (2 : Int32)))) (xs (Int32.toNatClampNeg (nI i + (3 : Int32)))) (xs (Int32.toNatClampNeg (nI i + (4 : Int32)))) L I).1)]) (sk := [.int ((f_X7_ropes (xs (Int32.toNatClampNeg (nI i + (1 : Int32)))) (xs (Int32.toNatClampNeg (nI i + (2 : Int32)))) (xs (Int32.toNatClampNeg (nI i + (3 : Int32)))) (xs (Int32.toNatClampNeg (nI i + (4 : Int32)))) st).1), .int ((f_X6_ropes (xs (Int32.toNatClampNeg (nI i + (1 : Int32)))) (xs (Int32.toNatClampNeg (nI i + (2 : Int32)))) (xs (Int32.toNatClampNeg (nI i + (3 : Int32)))) (xs (Int32.toNatClampNeg (nI i + (4 : Int32)))) L I).1)]) ⟨hx, hb, hml, hown, hts⟩ hM gL_law_X7_ropes kyX7_ropes ⟨Nat.le_of_ble_eq_true rfl, Nat.le_of_ble_eq_true rfl⟩ rfl hK hP hD hS hA rfl hl.1 rfl rfl rfl ⟨Nat.le_of_ble_eq_true rfl, Nat.le_of_ble_eq_true rfl⟩ dL_law_575 (fun H locs hP hD hS => ?_)
  refine lv_icmp_eq (tgt := 910) hx hb dL_law_578 (by decide) (fun _ => ?_) (fun c9 => absurd heq c9)
  exact kk H locs hP hD hS
set_option maxHeartbeats 4000000 in
set_option maxRecDepth 100000 in
theorem lw_c15 {p : Program} {l : Launch} {e : Env} {s : State} {m : MethodId} {below : List Frame} {meth : Method} {c : Code} {D : va_G} {ct : ClassId × ClassId × ClassId} {z : Nat × Nat} {b Ln : Nat} {xs : Nat → Int32} {cd ad : Nat → Nat} {h : Nat} {L : Nat → Nat → Int64} {I st : Nat → Nat → Int32} {i : Nat} {H : Heap} {locs : List Loc} {ls : Array Slot} (C0 : lw_At p s m meth c b Ln xs) (hK : kK D ct z (fun q : Nat => s.heap.size ≤ q) s) (hi : i + 6 ≤ Ln) (hLn : Ln ≤ 384) (hp : lwPre I st) (hl : lv_has ls 4 [(3, .int (nI i)), (2, .ref h), (1, .ref (cd 0)), (0, .ref b)]) (hP : va_P D vwCl (xW cd ct L I ++ mW h ad ct st) H) (hD : va_D (fun q : Nat => s.heap.size ≤ q) (xW cd ct L I ++ mW h ad ct st)) (hS : va_S (fun q : Nat => s.heap.size ≤ q) s.heap H locs)
    (heq : ∀ v : Int32, (v = 0 ∨ v = 1) → ((f_X6_look (xs (Int32.toNatClampNeg (nI i + (1 : Int32)))) (xs (Int32.toNatClampNeg (nI i + (2 : Int32)))) v L I).1) = ((f_X7_look (xs (Int32.toNatClampNeg (nI i + (1 : Int32)))) (xs (Int32.toNatClampNeg (nI i + (2 : Int32)))) v st).1))
    (kk : ∀ v : Int32, (v = 0 ∨ v = 1) → ∀ (H1 : Heap) (locs1 : List Loc), va_P D vwCl (xW cd ct ((f_X6_look (xs (Int32.toNatClampNeg (nI i + (1 : Int32)))) (xs (Int32.toNatClampNeg (nI i + (2 : Int32)))) v L I).2.1) ((f_X6_look (xs (Int32.toNatClampNeg (nI i + (1 : Int32)))) (xs (Int32.toNatClampNeg (nI i + (2 : Int32)))) v L I).2.2) ++ mW h ad ct ((f_X7_look (xs (Int32.toNatClampNeg (nI i + (1 : Int32)))) (xs (Int32.toNatClampNeg (nI i + (2 : Int32)))) v st).2)) H1 → va_D (fun q : Nat => s.heap.size ≤ q) (xW cd ct ((f_X6_look (xs (Int32.toNatClampNeg (nI i + (1 : Int32)))) (xs (Int32.toNatClampNeg (nI i + (2 : Int32)))) v L I).2.1) ((f_X6_look (xs (Int32.toNatClampNeg (nI i + (1 : Int32)))) (xs (Int32.toNatClampNeg (nI i + (2 : Int32)))) v L I).2.2) ++ mW h ad ct ((f_X7_look (xs (Int32.toNatClampNeg (nI i + (1 : Int32)))) (xs (Int32.toNatClampNeg (nI i + (2 : Int32)))) v st).2)) → va_S (fun q : Nat => s.heap.size ≤ q) s.heap H1 locs1 → W p l e room_1 s m #[Value.ref b] below meth c H1 locs1 35 1922 (lw_Z below #[Value.ref b] s) (F0 m 910 ls [])) :
    W p l e room_1 s m #[Value.ref b] below meth c H locs 35 1922 (lw_Z below #[Value.ref b] s) (F0 m 583 ls []) := by
  obtain ⟨hx, hb, hr, hml, hown, hts0, hX, hbl, hlocks, hgv⟩ := C0
  have hts : ∀ w ∈ wsL_law, w.before #[Value.ref b] s = true := fun w h => hts0 w (wsL_law_in w h)
  have hA : ∀ q : Nat, s.heap.size ≤ q → (fun q : Nat => s.heap.size ≤ q) q := fun _ h => h
  have hbA : ¬ (fun q : Nat => s.heap.size ≤ q) b := Nat.not_le.mpr hbl
  refine lv_aload_n hx hb dL_law_583 rfl (lv_at hl 2 rfl) ?_
  refine lv_aload_n hx hb dL_law_584 rfl (lv_at hl 3 rfl) ?_
  refine lv_iload_n hx hb dL_law_585 rfl (lv_at hl 0 rfl) ?_
  refine lv_iconst (v := (1 : Int32)) hx hb dL_law_586 (by decide) ?_
  refine lv_iadd hx hb dL_law_587 ?_
  refine va_sld hx hb hX hbl hbA hS (li 1 (by decide) (by omega) hLn) dL_law_588 ?_
  refine lv_aload_n hx hb dL_law_589 rfl (lv_at hl 3 rfl) ?_
  refine lv_iload_n hx hb dL_law_590 rfl (lv_at hl 0 rfl) ?_
  refine lv_iconst (v := (2 : Int32)) hx hb dL_law_591 (by decide) ?_
  refine lv_iadd hx hb dL_law_592 ?_
  refine va_sld hx hb hX hbl hbA hS (li 2 (by decide) (by omega) hLn) dL_law_593 ?_
  refine lv_aload_n hx hb dL_law_594 rfl (lv_at hl 3 rfl) ?_
  refine lv_iload_n hx hb dL_law_595 rfl (lv_at hl 0 rfl) ?_
  refine lv_iconst (v := (3 : Int32)) hx hb dL_law_596 (by decide) ?_
  refine lv_iadd hx hb dL_law_597 ?_
  refine va_sld hx hb hX hbl hbA hS (li 3 (by decide) (by omega) hLn) dL_law_598 ?_
  refine lv_if_eq (tgt := 606) hx hb dL_law_599 (by decide) (fun cb => ?_) (fun cb => ?_)
  · refine lv_iconst (v := (0 : Int32)) hx hb dL_law_606 (by decide) ?_
    have hM := k_X6_look l D ct z cd (xs (Int32.toNatClampNeg (nI i + (1 : Int32)))) (xs (Int32.toNatClampNeg (nI i + (2 : Int32)))) (0 : Int32) L I 
    refine lvX (As := [.int (xs (Int32.toNatClampNeg (nI i + (1 : Int32)))), .int (xs (Int32.toNatClampNeg (nI i + (2 : Int32)))), .int (0 : Int32)]) (rest := []) (sk := [.int ((f_X6_look (xs (Int32.toNatClampNeg (nI i + (1 : Int32)))) (xs (Int32.toNatClampNeg (nI i + (2 : Int32)))) (0 : Int32) L I).1)]) ⟨hx, hb, hml, hown, hts⟩ hM gL_law_X6_look kyX6_look ⟨Nat.le_of_ble_eq_true rfl, Nat.le_of_ble_eq_true rfl⟩ rfl hK hP hD hS hA rfl hl.1 rfl rfl rfl ⟨Nat.le_of_ble_eq_true rfl, Nat.le_of_ble_eq_true rfl⟩ dL_law_607 (fun H locs hP hD hS => ?_)
    refine lv_aload_n hx hb dL_law_610 rfl (lv_at hl 1 rfl) ?_
    refine lv_aload_n hx hb dL_law_611 rfl (lv_at hl 3 rfl) ?_
    refine lv_iload_n hx hb dL_law_612 rfl (lv_at hl 0 rfl) ?_
    refine lv_iconst (v := (1 : Int32)) hx hb dL_law_613 (by decide) ?_
    refine lv_iadd hx hb dL_law_614 ?_
    refine va_sld hx hb hX hbl hbA hS (li 1 (by decide) (by omega) hLn) dL_law_615 ?_
    refine lv_aload_n hx hb dL_law_616 rfl (lv_at hl 3 rfl) ?_
    refine lv_iload_n hx hb dL_law_617 rfl (lv_at hl 0 rfl) ?_
    refine lv_iconst (v := (2 : Int32)) hx hb dL_law_618 (by decide) ?_
    refine lv_iadd hx hb dL_law_619 ?_
    refine va_sld hx hb hX hbl hbA hS (li 2 (by decide) (by omega) hLn) dL_law_620 ?_
    refine lv_aload_n hx hb dL_law_621 rfl (lv_at hl 3 rfl) ?_
    refine lv_iload_n hx hb dL_law_622 rfl (lv_at hl 0 rfl) ?_
    refine lv_iconst (v := (3 : Int32)) hx hb dL_law_623 (by decide) ?_
    refine lv_iadd hx hb dL_law_624 ?_
    refine va_sld hx hb hX hbl hbA hS (li 3 (by decide) (by omega) hLn) dL_law_625 ?_
    refine lv_if_eq (tgt := 633) hx hb dL_law_626 (by decide) (fun _ => ?_) (fun c2 => absurd cb c2)
    refine lv_iconst (v := (0 : Int32)) hx hb dL_law_633 (by decide) ?_
    have hM := k_X7_look l D ct z h ad (xs (Int32.toNatClampNeg (nI i + (1 : Int32)))) (xs (Int32.toNatClampNeg (nI i + (2 : Int32)))) (0 : Int32) st hp.2.2.2
    refine lvM (As := [.int (xs (Int32.toNatClampNeg (nI i + (1 : Int32)))), .int (xs (Int32.toNatClampNeg (nI i + (2 : Int32)))), .int (0 : Int32)]) (rest := [.int ((f_X6_look (xs (Int32.toNatClampNeg (nI i + (1 : Int32)))) (xs (Int32.toNatClampNeg (nI i + (2 : Int32)))) (0 : Int32) L I).1)]) (sk := [.int ((f_X7_look (xs (Int32.toNatClampNeg (nI i + (1 : Int32)))) (xs (Int32.toNatClampNeg (nI i + (2 : Int32)))) (0 : Int32) st).1), .int ((f_X6_look (xs (Int32.toNatClampNeg (nI i + (1 : Int32)))) (xs (Int32.toNatClampNeg (nI i + (2 : Int32)))) (0 : Int32) L I).1)]) ⟨hx, hb, hml, hown, hts⟩ hM gL_law_X7_look kyX7_look ⟨Nat.le_of_ble_eq_true rfl, Nat.le_of_ble_eq_true rfl⟩ rfl hK hP hD hS hA rfl hl.1 rfl rfl rfl ⟨Nat.le_of_ble_eq_true rfl, Nat.le_of_ble_eq_true rfl⟩ dL_law_634 (fun H locs hP hD hS => ?_)
    refine lv_icmp_eq (tgt := 910) hx hb dL_law_637 (by decide) (fun _ => ?_) (fun c9 => absurd (heq (0 : Int32) (Or.inl rfl)) c9)
    exact kk (0 : Int32) (Or.inl rfl) H locs hP hD hS
  · refine lv_iconst (v := (1 : Int32)) hx hb dL_law_602 (by decide) ?_
    refine lv_goto (tgt := 607) hx hb dL_law_603 (by decide) ?_
    have hM := k_X6_look l D ct z cd (xs (Int32.toNatClampNeg (nI i + (1 : Int32)))) (xs (Int32.toNatClampNeg (nI i + (2 : Int32)))) (1 : Int32) L I 
    refine lvX (As := [.int (xs (Int32.toNatClampNeg (nI i + (1 : Int32)))), .int (xs (Int32.toNatClampNeg (nI i + (2 : Int32)))), .int (1 : Int32)]) (rest := []) (sk := [.int ((f_X6_look (xs (Int32.toNatClampNeg (nI i + (1 : Int32)))) (xs (Int32.toNatClampNeg (nI i + (2 : Int32)))) (1 : Int32) L I).1)]) ⟨hx, hb, hml, hown, hts⟩ hM gL_law_X6_look kyX6_look ⟨Nat.le_of_ble_eq_true rfl, Nat.le_of_ble_eq_true rfl⟩ rfl hK hP hD hS hA rfl hl.1 rfl rfl rfl ⟨Nat.le_of_ble_eq_true rfl, Nat.le_of_ble_eq_true rfl⟩ dL_law_607 (fun H locs hP hD hS => ?_)
    refine lv_aload_n hx hb dL_law_610 rfl (lv_at hl 1 rfl) ?_
    refine lv_aload_n hx hb dL_law_611 rfl (lv_at hl 3 rfl) ?_
    refine lv_iload_n hx hb dL_law_612 rfl (lv_at hl 0 rfl) ?_
    refine lv_iconst (v := (1 : Int32)) hx hb dL_law_613 (by decide) ?_
    refine lv_iadd hx hb dL_law_614 ?_
    refine va_sld hx hb hX hbl hbA hS (li 1 (by decide) (by omega) hLn) dL_law_615 ?_
    refine lv_aload_n hx hb dL_law_616 rfl (lv_at hl 3 rfl) ?_
    refine lv_iload_n hx hb dL_law_617 rfl (lv_at hl 0 rfl) ?_
    refine lv_iconst (v := (2 : Int32)) hx hb dL_law_618 (by decide) ?_
    refine lv_iadd hx hb dL_law_619 ?_
    refine va_sld hx hb hX hbl hbA hS (li 2 (by decide) (by omega) hLn) dL_law_620 ?_
    refine lv_aload_n hx hb dL_law_621 rfl (lv_at hl 3 rfl) ?_
    refine lv_iload_n hx hb dL_law_622 rfl (lv_at hl 0 rfl) ?_
    refine lv_iconst (v := (3 : Int32)) hx hb dL_law_623 (by decide) ?_
    refine lv_iadd hx hb dL_law_624 ?_
    refine va_sld hx hb hX hbl hbA hS (li 3 (by decide) (by omega) hLn) dL_law_625 ?_
    refine lv_if_eq (tgt := 633) hx hb dL_law_626 (by decide) (fun c2 => absurd c2 cb) (fun _ => ?_)
    refine lv_iconst (v := (1 : Int32)) hx hb dL_law_629 (by decide) ?_
    refine lv_goto (tgt := 634) hx hb dL_law_630 (by decide) ?_
    have hM := k_X7_look l D ct z h ad (xs (Int32.toNatClampNeg (nI i + (1 : Int32)))) (xs (Int32.toNatClampNeg (nI i + (2 : Int32)))) (1 : Int32) st hp.2.2.2
    refine lvM (As := [.int (xs (Int32.toNatClampNeg (nI i + (1 : Int32)))), .int (xs (Int32.toNatClampNeg (nI i + (2 : Int32)))), .int (1 : Int32)]) (rest := [.int ((f_X6_look (xs (Int32.toNatClampNeg (nI i + (1 : Int32)))) (xs (Int32.toNatClampNeg (nI i + (2 : Int32)))) (1 : Int32) L I).1)]) (sk := [.int ((f_X7_look (xs (Int32.toNatClampNeg (nI i + (1 : Int32)))) (xs (Int32.toNatClampNeg (nI i + (2 : Int32)))) (1 : Int32) st).1), .int ((f_X6_look (xs (Int32.toNatClampNeg (nI i + (1 : Int32)))) (xs (Int32.toNatClampNeg (nI i + (2 : Int32)))) (1 : Int32) L I).1)]) ⟨hx, hb, hml, hown, hts⟩ hM gL_law_X7_look kyX7_look ⟨Nat.le_of_ble_eq_true rfl, Nat.le_of_ble_eq_true rfl⟩ rfl hK hP hD hS hA rfl hl.1 rfl rfl rfl ⟨Nat.le_of_ble_eq_true rfl, Nat.le_of_ble_eq_true rfl⟩ dL_law_634 (fun H locs hP hD hS => ?_)
    refine lv_icmp_eq (tgt := 910) hx hb dL_law_637 (by decide) (fun _ => ?_) (fun c9 => absurd (heq (1 : Int32) (Or.inr rfl)) c9)
    exact kk (1 : Int32) (Or.inr rfl) H locs hP hD hS
set_option maxHeartbeats 4000000 in
set_option maxRecDepth 100000 in
theorem lw_c16 {p : Program} {l : Launch} {e : Env} {s : State} {m : MethodId} {below : List Frame} {meth : Method} {c : Code} {D : va_G} {ct : ClassId × ClassId × ClassId} {z : Nat × Nat} {b Ln : Nat} {xs : Nat → Int32} {cd ad : Nat → Nat} {h : Nat} {L : Nat → Nat → Int64} {I st : Nat → Nat → Int32} {i : Nat} {H : Heap} {locs : List Loc} {ls : Array Slot} (C0 : lw_At p s m meth c b Ln xs) (hK : kK D ct z (fun q : Nat => s.heap.size ≤ q) s) (hi : i + 6 ≤ Ln) (hLn : Ln ≤ 384) (hp : lwPre I st) (hl : lv_has ls 4 [(3, .int (nI i)), (2, .ref h), (1, .ref (cd 0)), (0, .ref b)]) (hP : va_P D vwCl (xW cd ct L I ++ mW h ad ct st) H) (hD : va_D (fun q : Nat => s.heap.size ≤ q) (xW cd ct L I ++ mW h ad ct st)) (hS : va_S (fun q : Nat => s.heap.size ≤ q) s.heap H locs)
    (heq : ((f_X6_forget L I).1) = ((f_X7_forget st).1))
    (kk : ∀ (H1 : Heap) (locs1 : List Loc), va_P D vwCl (xW cd ct ((f_X6_forget L I).2.1) ((f_X6_forget L I).2.2) ++ mW h ad ct ((f_X7_forget st).2)) H1 → va_D (fun q : Nat => s.heap.size ≤ q) (xW cd ct ((f_X6_forget L I).2.1) ((f_X6_forget L I).2.2) ++ mW h ad ct ((f_X7_forget st).2)) → va_S (fun q : Nat => s.heap.size ≤ q) s.heap H1 locs1 → W p l e room_1 s m #[Value.ref b] below meth c H1 locs1 35 1922 (lw_Z below #[Value.ref b] s) (F0 m 910 ls [])) :
    W p l e room_1 s m #[Value.ref b] below meth c H locs 35 1922 (lw_Z below #[Value.ref b] s) (F0 m 642 ls []) := by
  obtain ⟨hx, hb, hr, hml, hown, hts0, hX, hbl, hlocks, hgv⟩ := C0
  have hts : ∀ w ∈ wsL_law, w.before #[Value.ref b] s = true := fun w h => hts0 w (wsL_law_in w h)
  have hA : ∀ q : Nat, s.heap.size ≤ q → (fun q : Nat => s.heap.size ≤ q) q := fun _ h => h
  have hbA : ¬ (fun q : Nat => s.heap.size ≤ q) b := Nat.not_le.mpr hbl
  refine lv_aload_n hx hb dL_law_642 rfl (lv_at hl 2 rfl) ?_
  have hM := k_X6_forget l D ct z cd  L I 
  refine lvX (As := []) (rest := []) (sk := [.int ((f_X6_forget L I).1)]) ⟨hx, hb, hml, hown, hts⟩ hM gL_law_X6_forget kyX6_forget ⟨Nat.le_of_ble_eq_true rfl, Nat.le_of_ble_eq_true rfl⟩ rfl hK hP hD hS hA rfl hl.1 rfl rfl rfl ⟨Nat.le_of_ble_eq_true rfl, Nat.le_of_ble_eq_true rfl⟩ dL_law_643 (fun H locs hP hD hS => ?_)
  refine lv_aload_n hx hb dL_law_646 rfl (lv_at hl 1 rfl) ?_
  have hM := k_X7_forget l D ct z h ad  st 
  refine lvM (As := []) (rest := [.int ((f_X6_forget L I).1)]) (sk := [.int ((f_X7_forget st).1), .int ((f_X6_forget L I).1)]) ⟨hx, hb, hml, hown, hts⟩ hM gL_law_X7_forget kyX7_forget ⟨Nat.le_of_ble_eq_true rfl, Nat.le_of_ble_eq_true rfl⟩ rfl hK hP hD hS hA rfl hl.1 rfl rfl rfl ⟨Nat.le_of_ble_eq_true rfl, Nat.le_of_ble_eq_true rfl⟩ dL_law_647 (fun H locs hP hD hS => ?_)
  refine lv_icmp_eq (tgt := 910) hx hb dL_law_650 (by decide) (fun _ => ?_) (fun c9 => absurd heq c9)
  exact kk H locs hP hD hS
set_option maxHeartbeats 4000000 in
set_option maxRecDepth 100000 in
theorem lw_c17 {p : Program} {l : Launch} {e : Env} {s : State} {m : MethodId} {below : List Frame} {meth : Method} {c : Code} {D : va_G} {ct : ClassId × ClassId × ClassId} {z : Nat × Nat} {b Ln : Nat} {xs : Nat → Int32} {cd ad : Nat → Nat} {h : Nat} {L : Nat → Nat → Int64} {I st : Nat → Nat → Int32} {i : Nat} {H : Heap} {locs : List Loc} {ls : Array Slot} (C0 : lw_At p s m meth c b Ln xs) (hK : kK D ct z (fun q : Nat => s.heap.size ≤ q) s) (hi : i + 6 ≤ Ln) (hLn : Ln ≤ 384) (hp : lwPre I st) (hl : lv_has ls 4 [(3, .int (nI i)), (2, .ref h), (1, .ref (cd 0)), (0, .ref b)]) (hP : va_P D vwCl (xW cd ct L I ++ mW h ad ct st) H) (hD : va_D (fun q : Nat => s.heap.size ≤ q) (xW cd ct L I ++ mW h ad ct st)) (hS : va_S (fun q : Nat => s.heap.size ≤ q) s.heap H locs)
    (heq : (f_X6_light (xs (Int32.toNatClampNeg (nI i + (1 : Int32)))) L I) = ((f_X7_light (xs (Int32.toNatClampNeg (nI i + (1 : Int32)))) st).1))
    (kk : ∀ (H1 : Heap) (locs1 : List Loc), va_P D vwCl (xW cd ct L I ++ mW h ad ct ((f_X7_light (xs (Int32.toNatClampNeg (nI i + (1 : Int32)))) st).2)) H1 → va_D (fun q : Nat => s.heap.size ≤ q) (xW cd ct L I ++ mW h ad ct ((f_X7_light (xs (Int32.toNatClampNeg (nI i + (1 : Int32)))) st).2)) → va_S (fun q : Nat => s.heap.size ≤ q) s.heap H1 locs1 → W p l e room_1 s m #[Value.ref b] below meth c H1 locs1 35 1922 (lw_Z below #[Value.ref b] s) (F0 m 910 ls [])) :
    W p l e room_1 s m #[Value.ref b] below meth c H locs 35 1922 (lw_Z below #[Value.ref b] s) (F0 m 655 ls []) := by
  obtain ⟨hx, hb, hr, hml, hown, hts0, hX, hbl, hlocks, hgv⟩ := C0
  have hts : ∀ w ∈ wsL_law, w.before #[Value.ref b] s = true := fun w h => hts0 w (wsL_law_in w h)
  have hA : ∀ q : Nat, s.heap.size ≤ q → (fun q : Nat => s.heap.size ≤ q) q := fun _ h => h
  have hbA : ¬ (fun q : Nat => s.heap.size ≤ q) b := Nat.not_le.mpr hbl
  refine lv_aload_n hx hb dL_law_655 rfl (lv_at hl 2 rfl) ?_
  refine lv_aload_n hx hb dL_law_656 rfl (lv_at hl 3 rfl) ?_
  refine lv_iload_n hx hb dL_law_657 rfl (lv_at hl 0 rfl) ?_
  refine lv_iconst (v := (1 : Int32)) hx hb dL_law_658 (by decide) ?_
  refine lv_iadd hx hb dL_law_659 ?_
  refine va_sld hx hb hX hbl hbA hS (li 1 (by decide) (by omega) hLn) dL_law_660 ?_
  have hM := k_X6_light l D ct z cd (xs (Int32.toNatClampNeg (nI i + (1 : Int32)))) L I 
  refine lvX (As := [.int (xs (Int32.toNatClampNeg (nI i + (1 : Int32))))]) (rest := []) (sk := [.int (f_X6_light (xs (Int32.toNatClampNeg (nI i + (1 : Int32)))) L I)]) ⟨hx, hb, hml, hown, hts⟩ hM gL_law_X6_light kyX6_light ⟨Nat.le_of_ble_eq_true rfl, Nat.le_of_ble_eq_true rfl⟩ rfl hK hP hD hS hA rfl hl.1 rfl rfl rfl ⟨Nat.le_of_ble_eq_true rfl, Nat.le_of_ble_eq_true rfl⟩ dL_law_661 (fun H locs hP hD hS => ?_)
  refine lv_aload_n hx hb dL_law_664 rfl (lv_at hl 1 rfl) ?_
  refine lv_aload_n hx hb dL_law_665 rfl (lv_at hl 3 rfl) ?_
  refine lv_iload_n hx hb dL_law_666 rfl (lv_at hl 0 rfl) ?_
  refine lv_iconst (v := (1 : Int32)) hx hb dL_law_667 (by decide) ?_
  refine lv_iadd hx hb dL_law_668 ?_
  refine va_sld hx hb hX hbl hbA hS (li 1 (by decide) (by omega) hLn) dL_law_669 ?_
  have hM := k_X7_light l D ct z h ad (xs (Int32.toNatClampNeg (nI i + (1 : Int32)))) st hp.2.2.2
  refine lvM (As := [.int (xs (Int32.toNatClampNeg (nI i + (1 : Int32))))]) (rest := [.int (f_X6_light (xs (Int32.toNatClampNeg (nI i + (1 : Int32)))) L I)]) (sk := [.int ((f_X7_light (xs (Int32.toNatClampNeg (nI i + (1 : Int32)))) st).1), .int (f_X6_light (xs (Int32.toNatClampNeg (nI i + (1 : Int32)))) L I)]) ⟨hx, hb, hml, hown, hts⟩ hM gL_law_X7_light kyX7_light ⟨Nat.le_of_ble_eq_true rfl, Nat.le_of_ble_eq_true rfl⟩ rfl hK hP hD hS hA rfl hl.1 rfl rfl rfl ⟨Nat.le_of_ble_eq_true rfl, Nat.le_of_ble_eq_true rfl⟩ dL_law_670 (fun H locs hP hD hS => ?_)
  refine lv_icmp_eq (tgt := 910) hx hb dL_law_673 (by decide) (fun _ => ?_) (fun c9 => absurd heq c9)
  exact kk H locs hP hD hS
set_option maxHeartbeats 4000000 in
set_option maxRecDepth 100000 in
theorem lw_c18 {p : Program} {l : Launch} {e : Env} {s : State} {m : MethodId} {below : List Frame} {meth : Method} {c : Code} {D : va_G} {ct : ClassId × ClassId × ClassId} {z : Nat × Nat} {b Ln : Nat} {xs : Nat → Int32} {cd ad : Nat → Nat} {h : Nat} {L : Nat → Nat → Int64} {I st : Nat → Nat → Int32} {i : Nat} {H : Heap} {locs : List Loc} {ls : Array Slot} (C0 : lw_At p s m meth c b Ln xs) (hK : kK D ct z (fun q : Nat => s.heap.size ≤ q) s) (hi : i + 6 ≤ Ln) (hLn : Ln ≤ 384) (hp : lwPre I st) (hl : lv_has ls 4 [(3, .int (nI i)), (2, .ref h), (1, .ref (cd 0)), (0, .ref b)]) (hP : va_P D vwCl (xW cd ct L I ++ mW h ad ct st) H) (hD : va_D (fun q : Nat => s.heap.size ≤ q) (xW cd ct L I ++ mW h ad ct st)) (hS : va_S (fun q : Nat => s.heap.size ≤ q) s.heap H locs)
    (heq : (f_X6_ask (xs (Int32.toNatClampNeg (nI i + (1 : Int32)))) L I) = ((f_X7_ask (xs (Int32.toNatClampNeg (nI i + (1 : Int32)))) st).1))
    (kk : ∀ (H1 : Heap) (locs1 : List Loc), va_P D vwCl (xW cd ct L I ++ mW h ad ct ((f_X7_ask (xs (Int32.toNatClampNeg (nI i + (1 : Int32)))) st).2)) H1 → va_D (fun q : Nat => s.heap.size ≤ q) (xW cd ct L I ++ mW h ad ct ((f_X7_ask (xs (Int32.toNatClampNeg (nI i + (1 : Int32)))) st).2)) → va_S (fun q : Nat => s.heap.size ≤ q) s.heap H1 locs1 → W p l e room_1 s m #[Value.ref b] below meth c H1 locs1 35 1922 (lw_Z below #[Value.ref b] s) (F0 m 910 ls [])) :
    W p l e room_1 s m #[Value.ref b] below meth c H locs 35 1922 (lw_Z below #[Value.ref b] s) (F0 m 678 ls []) := by
  obtain ⟨hx, hb, hr, hml, hown, hts0, hX, hbl, hlocks, hgv⟩ := C0
  have hts : ∀ w ∈ wsL_law, w.before #[Value.ref b] s = true := fun w h => hts0 w (wsL_law_in w h)
  have hA : ∀ q : Nat, s.heap.size ≤ q → (fun q : Nat => s.heap.size ≤ q) q := fun _ h => h
  have hbA : ¬ (fun q : Nat => s.heap.size ≤ q) b := Nat.not_le.mpr hbl
  refine lv_aload_n hx hb dL_law_678 rfl (lv_at hl 2 rfl) ?_
  refine lv_aload_n hx hb dL_law_679 rfl (lv_at hl 3 rfl) ?_
  refine lv_iload_n hx hb dL_law_680 rfl (lv_at hl 0 rfl) ?_
  refine lv_iconst (v := (1 : Int32)) hx hb dL_law_681 (by decide) ?_
  refine lv_iadd hx hb dL_law_682 ?_
  refine va_sld hx hb hX hbl hbA hS (li 1 (by decide) (by omega) hLn) dL_law_683 ?_
  have hM := k_X6_ask l D ct z cd (xs (Int32.toNatClampNeg (nI i + (1 : Int32)))) L I 
  refine lvX (As := [.int (xs (Int32.toNatClampNeg (nI i + (1 : Int32))))]) (rest := []) (sk := [.int (f_X6_ask (xs (Int32.toNatClampNeg (nI i + (1 : Int32)))) L I)]) ⟨hx, hb, hml, hown, hts⟩ hM gL_law_X6_ask kyX6_ask ⟨Nat.le_of_ble_eq_true rfl, Nat.le_of_ble_eq_true rfl⟩ rfl hK hP hD hS hA rfl hl.1 rfl rfl rfl ⟨Nat.le_of_ble_eq_true rfl, Nat.le_of_ble_eq_true rfl⟩ dL_law_684 (fun H locs hP hD hS => ?_)
  refine lv_aload_n hx hb dL_law_687 rfl (lv_at hl 1 rfl) ?_
  refine lv_aload_n hx hb dL_law_688 rfl (lv_at hl 3 rfl) ?_
  refine lv_iload_n hx hb dL_law_689 rfl (lv_at hl 0 rfl) ?_
  refine lv_iconst (v := (1 : Int32)) hx hb dL_law_690 (by decide) ?_
  refine lv_iadd hx hb dL_law_691 ?_
  refine va_sld hx hb hX hbl hbA hS (li 1 (by decide) (by omega) hLn) dL_law_692 ?_
  have hM := k_X7_ask l D ct z h ad (xs (Int32.toNatClampNeg (nI i + (1 : Int32)))) st hp.2.2.2
  refine lvM (As := [.int (xs (Int32.toNatClampNeg (nI i + (1 : Int32))))]) (rest := [.int (f_X6_ask (xs (Int32.toNatClampNeg (nI i + (1 : Int32)))) L I)]) (sk := [.int ((f_X7_ask (xs (Int32.toNatClampNeg (nI i + (1 : Int32)))) st).1), .int (f_X6_ask (xs (Int32.toNatClampNeg (nI i + (1 : Int32)))) L I)]) ⟨hx, hb, hml, hown, hts⟩ hM gL_law_X7_ask kyX7_ask ⟨Nat.le_of_ble_eq_true rfl, Nat.le_of_ble_eq_true rfl⟩ rfl hK hP hD hS hA rfl hl.1 rfl rfl rfl ⟨Nat.le_of_ble_eq_true rfl, Nat.le_of_ble_eq_true rfl⟩ dL_law_693 (fun H locs hP hD hS => ?_)
  refine lv_icmp_eq (tgt := 910) hx hb dL_law_696 (by decide) (fun _ => ?_) (fun c9 => absurd heq c9)
  exact kk H locs hP hD hS
set_option maxHeartbeats 4000000 in
set_option maxRecDepth 100000 in
theorem lw_c19 {p : Program} {l : Launch} {e : Env} {s : State} {m : MethodId} {below : List Frame} {meth : Method} {c : Code} {D : va_G} {ct : ClassId × ClassId × ClassId} {z : Nat × Nat} {b Ln : Nat} {xs : Nat → Int32} {cd ad : Nat → Nat} {h : Nat} {L : Nat → Nat → Int64} {I st : Nat → Nat → Int32} {i : Nat} {H : Heap} {locs : List Loc} {ls : Array Slot} (C0 : lw_At p s m meth c b Ln xs) (hK : kK D ct z (fun q : Nat => s.heap.size ≤ q) s) (hi : i + 6 ≤ Ln) (hLn : Ln ≤ 384) (hp : lwPre I st) (hl : lv_has ls 4 [(3, .int (nI i)), (2, .ref h), (1, .ref (cd 0)), (0, .ref b)]) (hP : va_P D vwCl (xW cd ct L I ++ mW h ad ct st) H) (hD : va_D (fun q : Nat => s.heap.size ≤ q) (xW cd ct L I ++ mW h ad ct st)) (hS : va_S (fun q : Nat => s.heap.size ≤ q) s.heap H locs)
    (heq : (f_X6_tack (xs (Int32.toNatClampNeg (nI i + (1 : Int32)))) (xs (Int32.toNatClampNeg (nI i + (2 : Int32)))) L I) = ((f_X7_tack (xs (Int32.toNatClampNeg (nI i + (1 : Int32)))) (xs (Int32.toNatClampNeg (nI i + (2 : Int32)))) st).1))
    (kk : ∀ (H1 : Heap) (locs1 : List Loc), va_P D vwCl (xW cd ct L I ++ mW h ad ct ((f_X7_tack (xs (Int32.toNatClampNeg (nI i + (1 : Int32)))) (xs (Int32.toNatClampNeg (nI i + (2 : Int32)))) st).2)) H1 → va_D (fun q : Nat => s.heap.size ≤ q) (xW cd ct L I ++ mW h ad ct ((f_X7_tack (xs (Int32.toNatClampNeg (nI i + (1 : Int32)))) (xs (Int32.toNatClampNeg (nI i + (2 : Int32)))) st).2)) → va_S (fun q : Nat => s.heap.size ≤ q) s.heap H1 locs1 → W p l e room_1 s m #[Value.ref b] below meth c H1 locs1 35 1922 (lw_Z below #[Value.ref b] s) (F0 m 910 ls [])) :
    W p l e room_1 s m #[Value.ref b] below meth c H locs 35 1922 (lw_Z below #[Value.ref b] s) (F0 m 701 ls []) := by
  obtain ⟨hx, hb, hr, hml, hown, hts0, hX, hbl, hlocks, hgv⟩ := C0
  have hts : ∀ w ∈ wsL_law, w.before #[Value.ref b] s = true := fun w h => hts0 w (wsL_law_in w h)
  have hA : ∀ q : Nat, s.heap.size ≤ q → (fun q : Nat => s.heap.size ≤ q) q := fun _ h => h
  have hbA : ¬ (fun q : Nat => s.heap.size ≤ q) b := Nat.not_le.mpr hbl
  refine lv_aload_n hx hb dL_law_701 rfl (lv_at hl 2 rfl) ?_
  refine lv_aload_n hx hb dL_law_702 rfl (lv_at hl 3 rfl) ?_
  refine lv_iload_n hx hb dL_law_703 rfl (lv_at hl 0 rfl) ?_
  refine lv_iconst (v := (1 : Int32)) hx hb dL_law_704 (by decide) ?_
  refine lv_iadd hx hb dL_law_705 ?_
  refine va_sld hx hb hX hbl hbA hS (li 1 (by decide) (by omega) hLn) dL_law_706 ?_
  refine lv_aload_n hx hb dL_law_707 rfl (lv_at hl 3 rfl) ?_
  refine lv_iload_n hx hb dL_law_708 rfl (lv_at hl 0 rfl) ?_
  refine lv_iconst (v := (2 : Int32)) hx hb dL_law_709 (by decide) ?_
  refine lv_iadd hx hb dL_law_710 ?_
  refine va_sld hx hb hX hbl hbA hS (li 2 (by decide) (by omega) hLn) dL_law_711 ?_
  have hM := k_X6_tack l D ct z cd (xs (Int32.toNatClampNeg (nI i + (1 : Int32)))) (xs (Int32.toNatClampNeg (nI i + (2 : Int32)))) L I 
  refine lvX (As := [.int (xs (Int32.toNatClampNeg (nI i + (1 : Int32)))), .int (xs (Int32.toNatClampNeg (nI i + (2 : Int32))))]) (rest := []) (sk := [.int (f_X6_tack (xs (Int32.toNatClampNeg (nI i + (1 : Int32)))) (xs (Int32.toNatClampNeg (nI i + (2 : Int32)))) L I)]) ⟨hx, hb, hml, hown, hts⟩ hM gL_law_X6_tack kyX6_tack ⟨Nat.le_of_ble_eq_true rfl, Nat.le_of_ble_eq_true rfl⟩ rfl hK hP hD hS hA rfl hl.1 rfl rfl rfl ⟨Nat.le_of_ble_eq_true rfl, Nat.le_of_ble_eq_true rfl⟩ dL_law_712 (fun H locs hP hD hS => ?_)
  refine lv_aload_n hx hb dL_law_715 rfl (lv_at hl 1 rfl) ?_
  refine lv_aload_n hx hb dL_law_716 rfl (lv_at hl 3 rfl) ?_
  refine lv_iload_n hx hb dL_law_717 rfl (lv_at hl 0 rfl) ?_
  refine lv_iconst (v := (1 : Int32)) hx hb dL_law_718 (by decide) ?_
  refine lv_iadd hx hb dL_law_719 ?_
  refine va_sld hx hb hX hbl hbA hS (li 1 (by decide) (by omega) hLn) dL_law_720 ?_
  refine lv_aload_n hx hb dL_law_721 rfl (lv_at hl 3 rfl) ?_
  refine lv_iload_n hx hb dL_law_722 rfl (lv_at hl 0 rfl) ?_
  refine lv_iconst (v := (2 : Int32)) hx hb dL_law_723 (by decide) ?_
  refine lv_iadd hx hb dL_law_724 ?_
  refine va_sld hx hb hX hbl hbA hS (li 2 (by decide) (by omega) hLn) dL_law_725 ?_
  have hM := k_X7_tack l D ct z h ad (xs (Int32.toNatClampNeg (nI i + (1 : Int32)))) (xs (Int32.toNatClampNeg (nI i + (2 : Int32)))) st 
  refine lvM (As := [.int (xs (Int32.toNatClampNeg (nI i + (1 : Int32)))), .int (xs (Int32.toNatClampNeg (nI i + (2 : Int32))))]) (rest := [.int (f_X6_tack (xs (Int32.toNatClampNeg (nI i + (1 : Int32)))) (xs (Int32.toNatClampNeg (nI i + (2 : Int32)))) L I)]) (sk := [.int ((f_X7_tack (xs (Int32.toNatClampNeg (nI i + (1 : Int32)))) (xs (Int32.toNatClampNeg (nI i + (2 : Int32)))) st).1), .int (f_X6_tack (xs (Int32.toNatClampNeg (nI i + (1 : Int32)))) (xs (Int32.toNatClampNeg (nI i + (2 : Int32)))) L I)]) ⟨hx, hb, hml, hown, hts⟩ hM gL_law_X7_tack kyX7_tack ⟨Nat.le_of_ble_eq_true rfl, Nat.le_of_ble_eq_true rfl⟩ rfl hK hP hD hS hA rfl hl.1 rfl rfl rfl ⟨Nat.le_of_ble_eq_true rfl, Nat.le_of_ble_eq_true rfl⟩ dL_law_726 (fun H locs hP hD hS => ?_)
  refine lv_icmp_eq (tgt := 910) hx hb dL_law_729 (by decide) (fun _ => ?_) (fun c9 => absurd heq c9)
  exact kk H locs hP hD hS
set_option maxHeartbeats 4000000 in
set_option maxRecDepth 100000 in
theorem lw_c20 {p : Program} {l : Launch} {e : Env} {s : State} {m : MethodId} {below : List Frame} {meth : Method} {c : Code} {D : va_G} {ct : ClassId × ClassId × ClassId} {z : Nat × Nat} {b Ln : Nat} {xs : Nat → Int32} {cd ad : Nat → Nat} {h : Nat} {L : Nat → Nat → Int64} {I st : Nat → Nat → Int32} {i : Nat} {H : Heap} {locs : List Loc} {ls : Array Slot} (C0 : lw_At p s m meth c b Ln xs) (hK : kK D ct z (fun q : Nat => s.heap.size ≤ q) s) (hi : i + 6 ≤ Ln) (hLn : Ln ≤ 384) (hp : lwPre I st) (hl : lv_has ls 4 [(3, .int (nI i)), (2, .ref h), (1, .ref (cd 0)), (0, .ref b)]) (hP : va_P D vwCl (xW cd ct L I ++ mW h ad ct st) H) (hD : va_D (fun q : Nat => s.heap.size ≤ q) (xW cd ct L I ++ mW h ad ct st)) (hS : va_S (fun q : Nat => s.heap.size ≤ q) s.heap H locs)
    (heq : ((f_X6_first (xs (Int32.toNatClampNeg (nI i + (1 : Int32)))) (xs (Int32.toNatClampNeg (nI i + (2 : Int32)))) (xs (Int32.toNatClampNeg (nI i + (3 : Int32)))) (xs (Int32.toNatClampNeg (nI i + (4 : Int32)))) (xs (Int32.toNatClampNeg (nI i + (5 : Int32)))) L I).1) = (f_X7_first (xs (Int32.toNatClampNeg (nI i + (1 : Int32)))) (xs (Int32.toNatClampNeg (nI i + (2 : Int32)))) (xs (Int32.toNatClampNeg (nI i + (3 : Int32)))) (xs (Int32.toNatClampNeg (nI i + (4 : Int32)))) (xs (Int32.toNatClampNeg (nI i + (5 : Int32)))) st))
    (kk : ∀ (H1 : Heap) (locs1 : List Loc), va_P D vwCl (xW cd ct ((f_X6_first (xs (Int32.toNatClampNeg (nI i + (1 : Int32)))) (xs (Int32.toNatClampNeg (nI i + (2 : Int32)))) (xs (Int32.toNatClampNeg (nI i + (3 : Int32)))) (xs (Int32.toNatClampNeg (nI i + (4 : Int32)))) (xs (Int32.toNatClampNeg (nI i + (5 : Int32)))) L I).2) I ++ mW h ad ct st) H1 → va_D (fun q : Nat => s.heap.size ≤ q) (xW cd ct ((f_X6_first (xs (Int32.toNatClampNeg (nI i + (1 : Int32)))) (xs (Int32.toNatClampNeg (nI i + (2 : Int32)))) (xs (Int32.toNatClampNeg (nI i + (3 : Int32)))) (xs (Int32.toNatClampNeg (nI i + (4 : Int32)))) (xs (Int32.toNatClampNeg (nI i + (5 : Int32)))) L I).2) I ++ mW h ad ct st) → va_S (fun q : Nat => s.heap.size ≤ q) s.heap H1 locs1 → W p l e room_1 s m #[Value.ref b] below meth c H1 locs1 35 1922 (lw_Z below #[Value.ref b] s) (F0 m 910 ls [])) :
    W p l e room_1 s m #[Value.ref b] below meth c H locs 35 1922 (lw_Z below #[Value.ref b] s) (F0 m 734 ls []) := by
  obtain ⟨hx, hb, hr, hml, hown, hts0, hX, hbl, hlocks, hgv⟩ := C0
  have hts : ∀ w ∈ wsL_law, w.before #[Value.ref b] s = true := fun w h => hts0 w (wsL_law_in w h)
  have hA : ∀ q : Nat, s.heap.size ≤ q → (fun q : Nat => s.heap.size ≤ q) q := fun _ h => h
  have hbA : ¬ (fun q : Nat => s.heap.size ≤ q) b := Nat.not_le.mpr hbl
  refine lv_aload_n hx hb dL_law_734 rfl (lv_at hl 2 rfl) ?_
  refine lv_aload_n hx hb dL_law_735 rfl (lv_at hl 3 rfl) ?_
  refine lv_iload_n hx hb dL_law_736 rfl (lv_at hl 0 rfl) ?_
  refine lv_iconst (v := (1 : Int32)) hx hb dL_law_737 (by decide) ?_
  refine lv_iadd hx hb dL_law_738 ?_
  refine va_sld hx hb hX hbl hbA hS (li 1 (by decide) (by omega) hLn) dL_law_739 ?_
  refine lv_aload_n hx hb dL_law_740 rfl (lv_at hl 3 rfl) ?_
  refine lv_iload_n hx hb dL_law_741 rfl (lv_at hl 0 rfl) ?_
  refine lv_iconst (v := (2 : Int32)) hx hb dL_law_742 (by decide) ?_
  refine lv_iadd hx hb dL_law_743 ?_
  refine va_sld hx hb hX hbl hbA hS (li 2 (by decide) (by omega) hLn) dL_law_744 ?_
  refine lv_aload_n hx hb dL_law_745 rfl (lv_at hl 3 rfl) ?_
  refine lv_iload_n hx hb dL_law_746 rfl (lv_at hl 0 rfl) ?_
  refine lv_iconst (v := (3 : Int32)) hx hb dL_law_747 (by decide) ?_
  refine lv_iadd hx hb dL_law_748 ?_
  refine va_sld hx hb hX hbl hbA hS (li 3 (by decide) (by omega) hLn) dL_law_749 ?_
  refine lv_aload_n hx hb dL_law_750 rfl (lv_at hl 3 rfl) ?_
  refine lv_iload_n hx hb dL_law_751 rfl (lv_at hl 0 rfl) ?_
  refine lv_iconst (v := (4 : Int32)) hx hb dL_law_752 (by decide) ?_
  refine lv_iadd hx hb dL_law_753 ?_
  refine va_sld hx hb hX hbl hbA hS (li 4 (by decide) (by omega) hLn) dL_law_754 ?_
  refine lv_aload_n hx hb dL_law_755 rfl (lv_at hl 3 rfl) ?_
  refine lv_iload_n hx hb dL_law_756 rfl (lv_at hl 0 rfl) ?_
  refine lv_iconst (v := (5 : Int32)) hx hb dL_law_757 (by decide) ?_
  refine lv_iadd hx hb dL_law_758 ?_
  refine va_sld hx hb hX hbl hbA hS (li 5 (by decide) (by omega) hLn) dL_law_759 ?_
  have hM := k_X6_first l D ct z cd (xs (Int32.toNatClampNeg (nI i + (1 : Int32)))) (xs (Int32.toNatClampNeg (nI i + (2 : Int32)))) (xs (Int32.toNatClampNeg (nI i + (3 : Int32)))) (xs (Int32.toNatClampNeg (nI i + (4 : Int32)))) (xs (Int32.toNatClampNeg (nI i + (5 : Int32)))) L I 
  refine lvX (As := [.int (xs (Int32.toNatClampNeg (nI i + (1 : Int32)))), .int (xs (Int32.toNatClampNeg (nI i + (2 : Int32)))), .int (xs (Int32.toNatClampNeg (nI i + (3 : Int32)))), .int (xs (Int32.toNatClampNeg (nI i + (4 : Int32)))), .int (xs (Int32.toNatClampNeg (nI i + (5 : Int32))))]) (rest := []) (sk := [.long ((f_X6_first (xs (Int32.toNatClampNeg (nI i + (1 : Int32)))) (xs (Int32.toNatClampNeg (nI i + (2 : Int32)))) (xs (Int32.toNatClampNeg (nI i + (3 : Int32)))) (xs (Int32.toNatClampNeg (nI i + (4 : Int32)))) (xs (Int32.toNatClampNeg (nI i + (5 : Int32)))) L I).1)]) ⟨hx, hb, hml, hown, hts⟩ hM gL_law_X6_first kyX6_first ⟨Nat.le_of_ble_eq_true rfl, Nat.le_of_ble_eq_true rfl⟩ rfl hK hP hD hS hA rfl hl.1 rfl rfl rfl ⟨Nat.le_of_ble_eq_true rfl, Nat.le_of_ble_eq_true rfl⟩ dL_law_760 (fun H locs hP hD hS => ?_)
  refine lv_aload_n hx hb dL_law_763 rfl (lv_at hl 1 rfl) ?_
  refine lv_aload_n hx hb dL_law_764 rfl (lv_at hl 3 rfl) ?_
  refine lv_iload_n hx hb dL_law_765 rfl (lv_at hl 0 rfl) ?_
  refine lv_iconst (v := (1 : Int32)) hx hb dL_law_766 (by decide) ?_
  refine lv_iadd hx hb dL_law_767 ?_
  refine va_sld hx hb hX hbl hbA hS (li 1 (by decide) (by omega) hLn) dL_law_768 ?_
  refine lv_aload_n hx hb dL_law_769 rfl (lv_at hl 3 rfl) ?_
  refine lv_iload_n hx hb dL_law_770 rfl (lv_at hl 0 rfl) ?_
  refine lv_iconst (v := (2 : Int32)) hx hb dL_law_771 (by decide) ?_
  refine lv_iadd hx hb dL_law_772 ?_
  refine va_sld hx hb hX hbl hbA hS (li 2 (by decide) (by omega) hLn) dL_law_773 ?_
  refine lv_aload_n hx hb dL_law_774 rfl (lv_at hl 3 rfl) ?_
  refine lv_iload_n hx hb dL_law_775 rfl (lv_at hl 0 rfl) ?_
  refine lv_iconst (v := (3 : Int32)) hx hb dL_law_776 (by decide) ?_
  refine lv_iadd hx hb dL_law_777 ?_
  refine va_sld hx hb hX hbl hbA hS (li 3 (by decide) (by omega) hLn) dL_law_778 ?_
  refine lv_aload_n hx hb dL_law_779 rfl (lv_at hl 3 rfl) ?_
  refine lv_iload_n hx hb dL_law_780 rfl (lv_at hl 0 rfl) ?_
  refine lv_iconst (v := (4 : Int32)) hx hb dL_law_781 (by decide) ?_
  refine lv_iadd hx hb dL_law_782 ?_
  refine va_sld hx hb hX hbl hbA hS (li 4 (by decide) (by omega) hLn) dL_law_783 ?_
  refine lv_aload_n hx hb dL_law_784 rfl (lv_at hl 3 rfl) ?_
  refine lv_iload_n hx hb dL_law_785 rfl (lv_at hl 0 rfl) ?_
  refine lv_iconst (v := (5 : Int32)) hx hb dL_law_786 (by decide) ?_
  refine lv_iadd hx hb dL_law_787 ?_
  refine va_sld hx hb hX hbl hbA hS (li 5 (by decide) (by omega) hLn) dL_law_788 ?_
  have hM := k_X7_first l D ct z h ad (xs (Int32.toNatClampNeg (nI i + (1 : Int32)))) (xs (Int32.toNatClampNeg (nI i + (2 : Int32)))) (xs (Int32.toNatClampNeg (nI i + (3 : Int32)))) (xs (Int32.toNatClampNeg (nI i + (4 : Int32)))) (xs (Int32.toNatClampNeg (nI i + (5 : Int32)))) st 
  refine lvM (As := [.int (xs (Int32.toNatClampNeg (nI i + (1 : Int32)))), .int (xs (Int32.toNatClampNeg (nI i + (2 : Int32)))), .int (xs (Int32.toNatClampNeg (nI i + (3 : Int32)))), .int (xs (Int32.toNatClampNeg (nI i + (4 : Int32)))), .int (xs (Int32.toNatClampNeg (nI i + (5 : Int32))))]) (rest := [.long ((f_X6_first (xs (Int32.toNatClampNeg (nI i + (1 : Int32)))) (xs (Int32.toNatClampNeg (nI i + (2 : Int32)))) (xs (Int32.toNatClampNeg (nI i + (3 : Int32)))) (xs (Int32.toNatClampNeg (nI i + (4 : Int32)))) (xs (Int32.toNatClampNeg (nI i + (5 : Int32)))) L I).1)]) (sk := [.long (f_X7_first (xs (Int32.toNatClampNeg (nI i + (1 : Int32)))) (xs (Int32.toNatClampNeg (nI i + (2 : Int32)))) (xs (Int32.toNatClampNeg (nI i + (3 : Int32)))) (xs (Int32.toNatClampNeg (nI i + (4 : Int32)))) (xs (Int32.toNatClampNeg (nI i + (5 : Int32)))) st), .long ((f_X6_first (xs (Int32.toNatClampNeg (nI i + (1 : Int32)))) (xs (Int32.toNatClampNeg (nI i + (2 : Int32)))) (xs (Int32.toNatClampNeg (nI i + (3 : Int32)))) (xs (Int32.toNatClampNeg (nI i + (4 : Int32)))) (xs (Int32.toNatClampNeg (nI i + (5 : Int32)))) L I).1)]) ⟨hx, hb, hml, hown, hts⟩ hM gL_law_X7_first kyX7_first ⟨Nat.le_of_ble_eq_true rfl, Nat.le_of_ble_eq_true rfl⟩ rfl hK hP hD hS hA rfl hl.1 rfl rfl rfl ⟨Nat.le_of_ble_eq_true rfl, Nat.le_of_ble_eq_true rfl⟩ dL_law_789 (fun H locs hP hD hS => ?_)
  refine W.lcmp hx hb dL_law_792 ?_
  refine lv_if_eq (tgt := 910) hx hb dL_law_793 (by decide) (fun _ => ?_) (fun c9 => absurd (by rw [heq]; exact lcmp_self _) c9)
  exact kk H locs hP hD hS
set_option maxHeartbeats 4000000 in
set_option maxRecDepth 100000 in
theorem lw_c21 {p : Program} {l : Launch} {e : Env} {s : State} {m : MethodId} {below : List Frame} {meth : Method} {c : Code} {D : va_G} {ct : ClassId × ClassId × ClassId} {z : Nat × Nat} {b Ln : Nat} {xs : Nat → Int32} {cd ad : Nat → Nat} {h : Nat} {L : Nat → Nat → Int64} {I st : Nat → Nat → Int32} {i : Nat} {H : Heap} {locs : List Loc} {ls : Array Slot} (C0 : lw_At p s m meth c b Ln xs) (hK : kK D ct z (fun q : Nat => s.heap.size ≤ q) s) (hi : i + 6 ≤ Ln) (hLn : Ln ≤ 384) (hp : lwPre I st) (hl : lv_has ls 4 [(3, .int (nI i)), (2, .ref h), (1, .ref (cd 0)), (0, .ref b)]) (hP : va_P D vwCl (xW cd ct L I ++ mW h ad ct st) H) (hD : va_D (fun q : Nat => s.heap.size ≤ q) (xW cd ct L I ++ mW h ad ct st)) (hS : va_S (fun q : Nat => s.heap.size ≤ q) s.heap H locs)
    (heq : ((f_X6_year (xs (Int32.toNatClampNeg (nI i + (1 : Int32)))) (xs (Int32.toNatClampNeg (nI i + (2 : Int32)))) (xs (Int32.toNatClampNeg (nI i + (3 : Int32)))) L I).1) = ((f_X7_year (xs (Int32.toNatClampNeg (nI i + (1 : Int32)))) (xs (Int32.toNatClampNeg (nI i + (2 : Int32)))) (xs (Int32.toNatClampNeg (nI i + (3 : Int32)))) st).1))
    (kk : ∀ (H1 : Heap) (locs1 : List Loc), va_P D vwCl (xW cd ct ((f_X6_year (xs (Int32.toNatClampNeg (nI i + (1 : Int32)))) (xs (Int32.toNatClampNeg (nI i + (2 : Int32)))) (xs (Int32.toNatClampNeg (nI i + (3 : Int32)))) L I).2.1) ((f_X6_year (xs (Int32.toNatClampNeg (nI i + (1 : Int32)))) (xs (Int32.toNatClampNeg (nI i + (2 : Int32)))) (xs (Int32.toNatClampNeg (nI i + (3 : Int32)))) L I).2.2) ++ mW h ad ct ((f_X7_year (xs (Int32.toNatClampNeg (nI i + (1 : Int32)))) (xs (Int32.toNatClampNeg (nI i + (2 : Int32)))) (xs (Int32.toNatClampNeg (nI i + (3 : Int32)))) st).2)) H1 → va_D (fun q : Nat => s.heap.size ≤ q) (xW cd ct ((f_X6_year (xs (Int32.toNatClampNeg (nI i + (1 : Int32)))) (xs (Int32.toNatClampNeg (nI i + (2 : Int32)))) (xs (Int32.toNatClampNeg (nI i + (3 : Int32)))) L I).2.1) ((f_X6_year (xs (Int32.toNatClampNeg (nI i + (1 : Int32)))) (xs (Int32.toNatClampNeg (nI i + (2 : Int32)))) (xs (Int32.toNatClampNeg (nI i + (3 : Int32)))) L I).2.2) ++ mW h ad ct ((f_X7_year (xs (Int32.toNatClampNeg (nI i + (1 : Int32)))) (xs (Int32.toNatClampNeg (nI i + (2 : Int32)))) (xs (Int32.toNatClampNeg (nI i + (3 : Int32)))) st).2)) → va_S (fun q : Nat => s.heap.size ≤ q) s.heap H1 locs1 → W p l e room_1 s m #[Value.ref b] below meth c H1 locs1 35 1922 (lw_Z below #[Value.ref b] s) (F0 m 910 ls [])) :
    W p l e room_1 s m #[Value.ref b] below meth c H locs 35 1922 (lw_Z below #[Value.ref b] s) (F0 m 798 ls []) := by
  obtain ⟨hx, hb, hr, hml, hown, hts0, hX, hbl, hlocks, hgv⟩ := C0
  have hts : ∀ w ∈ wsL_law, w.before #[Value.ref b] s = true := fun w h => hts0 w (wsL_law_in w h)
  have hA : ∀ q : Nat, s.heap.size ≤ q → (fun q : Nat => s.heap.size ≤ q) q := fun _ h => h
  have hbA : ¬ (fun q : Nat => s.heap.size ≤ q) b := Nat.not_le.mpr hbl
  refine lv_aload_n hx hb dL_law_798 rfl (lv_at hl 2 rfl) ?_
  refine lv_aload_n hx hb dL_law_799 rfl (lv_at hl 3 rfl) ?_
  refine lv_iload_n hx hb dL_law_800 rfl (lv_at hl 0 rfl) ?_
  refine lv_iconst (v := (1 : Int32)) hx hb dL_law_801 (by decide) ?_
  refine lv_iadd hx hb dL_law_802 ?_
  refine va_sld hx hb hX hbl hbA hS (li 1 (by decide) (by omega) hLn) dL_law_803 ?_
  refine lv_aload_n hx hb dL_law_804 rfl (lv_at hl 3 rfl) ?_
  refine lv_iload_n hx hb dL_law_805 rfl (lv_at hl 0 rfl) ?_
  refine lv_iconst (v := (2 : Int32)) hx hb dL_law_806 (by decide) ?_
  refine lv_iadd hx hb dL_law_807 ?_
  refine va_sld hx hb hX hbl hbA hS (li 2 (by decide) (by omega) hLn) dL_law_808 ?_
  refine lv_aload_n hx hb dL_law_809 rfl (lv_at hl 3 rfl) ?_
  refine lv_iload_n hx hb dL_law_810 rfl (lv_at hl 0 rfl) ?_
  refine lv_iconst (v := (3 : Int32)) hx hb dL_law_811 (by decide) ?_
  refine lv_iadd hx hb dL_law_812 ?_
  refine va_sld hx hb hX hbl hbA hS (li 3 (by decide) (by omega) hLn) dL_law_813 ?_
  have hM := k_X6_year l D ct z cd (xs (Int32.toNatClampNeg (nI i + (1 : Int32)))) (xs (Int32.toNatClampNeg (nI i + (2 : Int32)))) (xs (Int32.toNatClampNeg (nI i + (3 : Int32)))) L I 
  refine lvX (As := [.int (xs (Int32.toNatClampNeg (nI i + (1 : Int32)))), .int (xs (Int32.toNatClampNeg (nI i + (2 : Int32)))), .int (xs (Int32.toNatClampNeg (nI i + (3 : Int32))))]) (rest := []) (sk := [.int ((f_X6_year (xs (Int32.toNatClampNeg (nI i + (1 : Int32)))) (xs (Int32.toNatClampNeg (nI i + (2 : Int32)))) (xs (Int32.toNatClampNeg (nI i + (3 : Int32)))) L I).1)]) ⟨hx, hb, hml, hown, hts⟩ hM gL_law_X6_year kyX6_year ⟨Nat.le_of_ble_eq_true rfl, Nat.le_of_ble_eq_true rfl⟩ rfl hK hP hD hS hA rfl hl.1 rfl rfl rfl ⟨Nat.le_of_ble_eq_true rfl, Nat.le_of_ble_eq_true rfl⟩ dL_law_814 (fun H locs hP hD hS => ?_)
  refine lv_aload_n hx hb dL_law_817 rfl (lv_at hl 1 rfl) ?_
  refine lv_aload_n hx hb dL_law_818 rfl (lv_at hl 3 rfl) ?_
  refine lv_iload_n hx hb dL_law_819 rfl (lv_at hl 0 rfl) ?_
  refine lv_iconst (v := (1 : Int32)) hx hb dL_law_820 (by decide) ?_
  refine lv_iadd hx hb dL_law_821 ?_
  refine va_sld hx hb hX hbl hbA hS (li 1 (by decide) (by omega) hLn) dL_law_822 ?_
  refine lv_aload_n hx hb dL_law_823 rfl (lv_at hl 3 rfl) ?_
  refine lv_iload_n hx hb dL_law_824 rfl (lv_at hl 0 rfl) ?_
  refine lv_iconst (v := (2 : Int32)) hx hb dL_law_825 (by decide) ?_
  refine lv_iadd hx hb dL_law_826 ?_
  refine va_sld hx hb hX hbl hbA hS (li 2 (by decide) (by omega) hLn) dL_law_827 ?_
  refine lv_aload_n hx hb dL_law_828 rfl (lv_at hl 3 rfl) ?_
  refine lv_iload_n hx hb dL_law_829 rfl (lv_at hl 0 rfl) ?_
  refine lv_iconst (v := (3 : Int32)) hx hb dL_law_830 (by decide) ?_
  refine lv_iadd hx hb dL_law_831 ?_
  refine va_sld hx hb hX hbl hbA hS (li 3 (by decide) (by omega) hLn) dL_law_832 ?_
  have hM := k_X7_year l D ct z h ad (xs (Int32.toNatClampNeg (nI i + (1 : Int32)))) (xs (Int32.toNatClampNeg (nI i + (2 : Int32)))) (xs (Int32.toNatClampNeg (nI i + (3 : Int32)))) st hp.2.2.1
  refine lvM (As := [.int (xs (Int32.toNatClampNeg (nI i + (1 : Int32)))), .int (xs (Int32.toNatClampNeg (nI i + (2 : Int32)))), .int (xs (Int32.toNatClampNeg (nI i + (3 : Int32))))]) (rest := [.int ((f_X6_year (xs (Int32.toNatClampNeg (nI i + (1 : Int32)))) (xs (Int32.toNatClampNeg (nI i + (2 : Int32)))) (xs (Int32.toNatClampNeg (nI i + (3 : Int32)))) L I).1)]) (sk := [.int ((f_X7_year (xs (Int32.toNatClampNeg (nI i + (1 : Int32)))) (xs (Int32.toNatClampNeg (nI i + (2 : Int32)))) (xs (Int32.toNatClampNeg (nI i + (3 : Int32)))) st).1), .int ((f_X6_year (xs (Int32.toNatClampNeg (nI i + (1 : Int32)))) (xs (Int32.toNatClampNeg (nI i + (2 : Int32)))) (xs (Int32.toNatClampNeg (nI i + (3 : Int32)))) L I).1)]) ⟨hx, hb, hml, hown, hts⟩ hM gL_law_X7_year kyX7_year ⟨Nat.le_of_ble_eq_true rfl, Nat.le_of_ble_eq_true rfl⟩ rfl hK hP hD hS hA rfl hl.1 rfl rfl rfl ⟨Nat.le_of_ble_eq_true rfl, Nat.le_of_ble_eq_true rfl⟩ dL_law_833 (fun H locs hP hD hS => ?_)
  refine lv_icmp_eq (tgt := 910) hx hb dL_law_836 (by decide) (fun _ => ?_) (fun c9 => absurd heq c9)
  exact kk H locs hP hD hS
set_option maxHeartbeats 4000000 in
set_option maxRecDepth 100000 in
theorem lw_c22 {p : Program} {l : Launch} {e : Env} {s : State} {m : MethodId} {below : List Frame} {meth : Method} {c : Code} {D : va_G} {ct : ClassId × ClassId × ClassId} {z : Nat × Nat} {b Ln : Nat} {xs : Nat → Int32} {cd ad : Nat → Nat} {h : Nat} {L : Nat → Nat → Int64} {I st : Nat → Nat → Int32} {i : Nat} {H : Heap} {locs : List Loc} {ls : Array Slot} (C0 : lw_At p s m meth c b Ln xs) (hK : kK D ct z (fun q : Nat => s.heap.size ≤ q) s) (hi : i + 6 ≤ Ln) (hLn : Ln ≤ 384) (hp : lwPre I st) (hl : lv_has ls 4 [(3, .int (nI i)), (2, .ref h), (1, .ref (cd 0)), (0, .ref b)]) (hP : va_P D vwCl (xW cd ct L I ++ mW h ad ct st) H) (hD : va_D (fun q : Nat => s.heap.size ≤ q) (xW cd ct L I ++ mW h ad ct st)) (hS : va_S (fun q : Nat => s.heap.size ≤ q) s.heap H locs)
    (heq : ((f_X6_image (xs (Int32.toNatClampNeg (nI i + (1 : Int32)))) L I).1) = ((f_X7_image (xs (Int32.toNatClampNeg (nI i + (1 : Int32)))) st).1))
    (kk : ∀ (H1 : Heap) (locs1 : List Loc), va_P D vwCl (xW cd ct ((f_X6_image (xs (Int32.toNatClampNeg (nI i + (1 : Int32)))) L I).2.1) ((f_X6_image (xs (Int32.toNatClampNeg (nI i + (1 : Int32)))) L I).2.2) ++ mW h ad ct ((f_X7_image (xs (Int32.toNatClampNeg (nI i + (1 : Int32)))) st).2)) H1 → va_D (fun q : Nat => s.heap.size ≤ q) (xW cd ct ((f_X6_image (xs (Int32.toNatClampNeg (nI i + (1 : Int32)))) L I).2.1) ((f_X6_image (xs (Int32.toNatClampNeg (nI i + (1 : Int32)))) L I).2.2) ++ mW h ad ct ((f_X7_image (xs (Int32.toNatClampNeg (nI i + (1 : Int32)))) st).2)) → va_S (fun q : Nat => s.heap.size ≤ q) s.heap H1 locs1 → W p l e room_1 s m #[Value.ref b] below meth c H1 locs1 35 1922 (lw_Z below #[Value.ref b] s) (F0 m 910 ls [])) :
    W p l e room_1 s m #[Value.ref b] below meth c H locs 35 1922 (lw_Z below #[Value.ref b] s) (F0 m 841 ls []) := by
  obtain ⟨hx, hb, hr, hml, hown, hts0, hX, hbl, hlocks, hgv⟩ := C0
  have hts : ∀ w ∈ wsL_law, w.before #[Value.ref b] s = true := fun w h => hts0 w (wsL_law_in w h)
  have hA : ∀ q : Nat, s.heap.size ≤ q → (fun q : Nat => s.heap.size ≤ q) q := fun _ h => h
  have hbA : ¬ (fun q : Nat => s.heap.size ≤ q) b := Nat.not_le.mpr hbl
  refine lv_aload_n hx hb dL_law_841 rfl (lv_at hl 2 rfl) ?_
  refine lv_aload_n hx hb dL_law_842 rfl (lv_at hl 3 rfl) ?_
  refine lv_iload_n hx hb dL_law_843 rfl (lv_at hl 0 rfl) ?_
  refine lv_iconst (v := (1 : Int32)) hx hb dL_law_844 (by decide) ?_
  refine lv_iadd hx hb dL_law_845 ?_
  refine va_sld hx hb hX hbl hbA hS (li 1 (by decide) (by omega) hLn) dL_law_846 ?_
  have hM := k_X6_image l D ct z cd (xs (Int32.toNatClampNeg (nI i + (1 : Int32)))) L I 
  refine lvX (As := [.int (xs (Int32.toNatClampNeg (nI i + (1 : Int32))))]) (rest := []) (sk := [.int ((f_X6_image (xs (Int32.toNatClampNeg (nI i + (1 : Int32)))) L I).1)]) ⟨hx, hb, hml, hown, hts⟩ hM gL_law_X6_image kyX6_image ⟨Nat.le_of_ble_eq_true rfl, Nat.le_of_ble_eq_true rfl⟩ rfl hK hP hD hS hA rfl hl.1 rfl rfl rfl ⟨Nat.le_of_ble_eq_true rfl, Nat.le_of_ble_eq_true rfl⟩ dL_law_847 (fun H locs hP hD hS => ?_)
  refine lv_aload_n hx hb dL_law_850 rfl (lv_at hl 1 rfl) ?_
  refine lv_aload_n hx hb dL_law_851 rfl (lv_at hl 3 rfl) ?_
  refine lv_iload_n hx hb dL_law_852 rfl (lv_at hl 0 rfl) ?_
  refine lv_iconst (v := (1 : Int32)) hx hb dL_law_853 (by decide) ?_
  refine lv_iadd hx hb dL_law_854 ?_
  refine va_sld hx hb hX hbl hbA hS (li 1 (by decide) (by omega) hLn) dL_law_855 ?_
  have hM := k_X7_image l D ct z h ad (xs (Int32.toNatClampNeg (nI i + (1 : Int32)))) st 
  refine lvM (As := [.int (xs (Int32.toNatClampNeg (nI i + (1 : Int32))))]) (rest := [.int ((f_X6_image (xs (Int32.toNatClampNeg (nI i + (1 : Int32)))) L I).1)]) (sk := [.int ((f_X7_image (xs (Int32.toNatClampNeg (nI i + (1 : Int32)))) st).1), .int ((f_X6_image (xs (Int32.toNatClampNeg (nI i + (1 : Int32)))) L I).1)]) ⟨hx, hb, hml, hown, hts⟩ hM gL_law_X7_image kyX7_image ⟨Nat.le_of_ble_eq_true rfl, Nat.le_of_ble_eq_true rfl⟩ rfl hK hP hD hS hA rfl hl.1 rfl rfl rfl ⟨Nat.le_of_ble_eq_true rfl, Nat.le_of_ble_eq_true rfl⟩ dL_law_856 (fun H locs hP hD hS => ?_)
  refine lv_icmp_eq (tgt := 910) hx hb dL_law_859 (by decide) (fun _ => ?_) (fun c9 => absurd heq c9)
  exact kk H locs hP hD hS
set_option maxHeartbeats 4000000 in
set_option maxRecDepth 100000 in
theorem lw_c23 {p : Program} {l : Launch} {e : Env} {s : State} {m : MethodId} {below : List Frame} {meth : Method} {c : Code} {D : va_G} {ct : ClassId × ClassId × ClassId} {z : Nat × Nat} {b Ln : Nat} {xs : Nat → Int32} {cd ad : Nat → Nat} {h : Nat} {L : Nat → Nat → Int64} {I st : Nat → Nat → Int32} {i : Nat} {H : Heap} {locs : List Loc} {ls : Array Slot} (C0 : lw_At p s m meth c b Ln xs) (hK : kK D ct z (fun q : Nat => s.heap.size ≤ q) s) (hi : i + 6 ≤ Ln) (hLn : Ln ≤ 384) (hp : lwPre I st) (hl : lv_has ls 4 [(3, .int (nI i)), (2, .ref h), (1, .ref (cd 0)), (0, .ref b)]) (hP : va_P D vwCl (xW cd ct L I ++ mW h ad ct st) H) (hD : va_D (fun q : Nat => s.heap.size ≤ q) (xW cd ct L I ++ mW h ad ct st)) (hS : va_S (fun q : Nat => s.heap.size ≤ q) s.heap H locs)
    (heq : ((f_X6_restore (xs (Int32.toNatClampNeg (nI i + (1 : Int32)))) L I).1) = ((f_X7_restore (xs (Int32.toNatClampNeg (nI i + (1 : Int32)))) st).1))
    (kk : ∀ (H1 : Heap) (locs1 : List Loc), va_P D vwCl (xW cd ct ((f_X6_restore (xs (Int32.toNatClampNeg (nI i + (1 : Int32)))) L I).2.1) ((f_X6_restore (xs (Int32.toNatClampNeg (nI i + (1 : Int32)))) L I).2.2) ++ mW h ad ct ((f_X7_restore (xs (Int32.toNatClampNeg (nI i + (1 : Int32)))) st).2)) H1 → va_D (fun q : Nat => s.heap.size ≤ q) (xW cd ct ((f_X6_restore (xs (Int32.toNatClampNeg (nI i + (1 : Int32)))) L I).2.1) ((f_X6_restore (xs (Int32.toNatClampNeg (nI i + (1 : Int32)))) L I).2.2) ++ mW h ad ct ((f_X7_restore (xs (Int32.toNatClampNeg (nI i + (1 : Int32)))) st).2)) → va_S (fun q : Nat => s.heap.size ≤ q) s.heap H1 locs1 → W p l e room_1 s m #[Value.ref b] below meth c H1 locs1 35 1922 (lw_Z below #[Value.ref b] s) (F0 m 910 ls [])) :
    W p l e room_1 s m #[Value.ref b] below meth c H locs 35 1922 (lw_Z below #[Value.ref b] s) (F0 m 864 ls []) := by
  obtain ⟨hx, hb, hr, hml, hown, hts0, hX, hbl, hlocks, hgv⟩ := C0
  have hts : ∀ w ∈ wsL_law, w.before #[Value.ref b] s = true := fun w h => hts0 w (wsL_law_in w h)
  have hA : ∀ q : Nat, s.heap.size ≤ q → (fun q : Nat => s.heap.size ≤ q) q := fun _ h => h
  have hbA : ¬ (fun q : Nat => s.heap.size ≤ q) b := Nat.not_le.mpr hbl
  refine lv_aload_n hx hb dL_law_864 rfl (lv_at hl 2 rfl) ?_
  refine lv_aload_n hx hb dL_law_865 rfl (lv_at hl 3 rfl) ?_
  refine lv_iload_n hx hb dL_law_866 rfl (lv_at hl 0 rfl) ?_
  refine lv_iconst (v := (1 : Int32)) hx hb dL_law_867 (by decide) ?_
  refine lv_iadd hx hb dL_law_868 ?_
  refine va_sld hx hb hX hbl hbA hS (li 1 (by decide) (by omega) hLn) dL_law_869 ?_
  have hM := k_X6_restore l D ct z cd (xs (Int32.toNatClampNeg (nI i + (1 : Int32)))) L I 
  refine lvX (As := [.int (xs (Int32.toNatClampNeg (nI i + (1 : Int32))))]) (rest := []) (sk := [.int ((f_X6_restore (xs (Int32.toNatClampNeg (nI i + (1 : Int32)))) L I).1)]) ⟨hx, hb, hml, hown, hts⟩ hM gL_law_X6_restore kyX6_restore ⟨Nat.le_of_ble_eq_true rfl, Nat.le_of_ble_eq_true rfl⟩ rfl hK hP hD hS hA rfl hl.1 rfl rfl rfl ⟨Nat.le_of_ble_eq_true rfl, Nat.le_of_ble_eq_true rfl⟩ dL_law_870 (fun H locs hP hD hS => ?_)
  refine lv_aload_n hx hb dL_law_873 rfl (lv_at hl 1 rfl) ?_
  refine lv_aload_n hx hb dL_law_874 rfl (lv_at hl 3 rfl) ?_
  refine lv_iload_n hx hb dL_law_875 rfl (lv_at hl 0 rfl) ?_
  refine lv_iconst (v := (1 : Int32)) hx hb dL_law_876 (by decide) ?_
  refine lv_iadd hx hb dL_law_877 ?_
  refine va_sld hx hb hX hbl hbA hS (li 1 (by decide) (by omega) hLn) dL_law_878 ?_
  have hM := k_X7_restore l D ct z h ad (xs (Int32.toNatClampNeg (nI i + (1 : Int32)))) st 
  refine lvM (As := [.int (xs (Int32.toNatClampNeg (nI i + (1 : Int32))))]) (rest := [.int ((f_X6_restore (xs (Int32.toNatClampNeg (nI i + (1 : Int32)))) L I).1)]) (sk := [.int ((f_X7_restore (xs (Int32.toNatClampNeg (nI i + (1 : Int32)))) st).1), .int ((f_X6_restore (xs (Int32.toNatClampNeg (nI i + (1 : Int32)))) L I).1)]) ⟨hx, hb, hml, hown, hts⟩ hM gL_law_X7_restore kyX7_restore ⟨Nat.le_of_ble_eq_true rfl, Nat.le_of_ble_eq_true rfl⟩ rfl hK hP hD hS hA rfl hl.1 rfl rfl rfl ⟨Nat.le_of_ble_eq_true rfl, Nat.le_of_ble_eq_true rfl⟩ dL_law_879 (fun H locs hP hD hS => ?_)
  refine lv_icmp_eq (tgt := 910) hx hb dL_law_882 (by decide) (fun _ => ?_) (fun c9 => absurd heq c9)
  exact kk H locs hP hD hS
set_option maxHeartbeats 4000000 in
set_option maxRecDepth 100000 in
theorem lw_c24 {p : Program} {l : Launch} {e : Env} {s : State} {m : MethodId} {below : List Frame} {meth : Method} {c : Code} {D : va_G} {ct : ClassId × ClassId × ClassId} {z : Nat × Nat} {b Ln : Nat} {xs : Nat → Int32} {cd ad : Nat → Nat} {h : Nat} {L : Nat → Nat → Int64} {I st : Nat → Nat → Int32} {i : Nat} {H : Heap} {locs : List Loc} {ls : Array Slot} (C0 : lw_At p s m meth c b Ln xs) (hK : kK D ct z (fun q : Nat => s.heap.size ≤ q) s) (hi : i + 6 ≤ Ln) (hLn : Ln ≤ 384) (hp : lwPre I st) (hl : lv_has ls 4 [(3, .int (nI i)), (2, .ref h), (1, .ref (cd 0)), (0, .ref b)]) (hP : va_P D vwCl (xW cd ct L I ++ mW h ad ct st) H) (hD : va_D (fun q : Nat => s.heap.size ≤ q) (xW cd ct L I ++ mW h ad ct st)) (hS : va_S (fun q : Nat => s.heap.size ≤ q) s.heap H locs)
    (heq : (f_X6_told (xs (Int32.toNatClampNeg (nI i + (1 : Int32)))) L I) = (f_X7_told (xs (Int32.toNatClampNeg (nI i + (1 : Int32)))) st))
    (kk : ∀ (H1 : Heap) (locs1 : List Loc), va_P D vwCl (xW cd ct L I ++ mW h ad ct st) H1 → va_D (fun q : Nat => s.heap.size ≤ q) (xW cd ct L I ++ mW h ad ct st) → va_S (fun q : Nat => s.heap.size ≤ q) s.heap H1 locs1 → W p l e room_1 s m #[Value.ref b] below meth c H1 locs1 35 1922 (lw_Z below #[Value.ref b] s) (F0 m 910 ls [])) :
    W p l e room_1 s m #[Value.ref b] below meth c H locs 35 1922 (lw_Z below #[Value.ref b] s) (F0 m 887 ls []) := by
  obtain ⟨hx, hb, hr, hml, hown, hts0, hX, hbl, hlocks, hgv⟩ := C0
  have hts : ∀ w ∈ wsL_law, w.before #[Value.ref b] s = true := fun w h => hts0 w (wsL_law_in w h)
  have hA : ∀ q : Nat, s.heap.size ≤ q → (fun q : Nat => s.heap.size ≤ q) q := fun _ h => h
  have hbA : ¬ (fun q : Nat => s.heap.size ≤ q) b := Nat.not_le.mpr hbl
  refine lv_aload_n hx hb dL_law_887 rfl (lv_at hl 2 rfl) ?_
  refine lv_aload_n hx hb dL_law_888 rfl (lv_at hl 3 rfl) ?_
  refine lv_iload_n hx hb dL_law_889 rfl (lv_at hl 0 rfl) ?_
  refine lv_iconst (v := (1 : Int32)) hx hb dL_law_890 (by decide) ?_
  refine lv_iadd hx hb dL_law_891 ?_
  refine va_sld hx hb hX hbl hbA hS (li 1 (by decide) (by omega) hLn) dL_law_892 ?_
  have hM := k_X6_told l D ct z cd (xs (Int32.toNatClampNeg (nI i + (1 : Int32)))) L I 
  refine lvX (As := [.int (xs (Int32.toNatClampNeg (nI i + (1 : Int32))))]) (rest := []) (sk := [.int (f_X6_told (xs (Int32.toNatClampNeg (nI i + (1 : Int32)))) L I)]) ⟨hx, hb, hml, hown, hts⟩ hM gL_law_X6_told kyX6_told ⟨Nat.le_of_ble_eq_true rfl, Nat.le_of_ble_eq_true rfl⟩ rfl hK hP hD hS hA rfl hl.1 rfl rfl rfl ⟨Nat.le_of_ble_eq_true rfl, Nat.le_of_ble_eq_true rfl⟩ dL_law_893 (fun H locs hP hD hS => ?_)
  refine lv_aload_n hx hb dL_law_896 rfl (lv_at hl 1 rfl) ?_
  refine lv_aload_n hx hb dL_law_897 rfl (lv_at hl 3 rfl) ?_
  refine lv_iload_n hx hb dL_law_898 rfl (lv_at hl 0 rfl) ?_
  refine lv_iconst (v := (1 : Int32)) hx hb dL_law_899 (by decide) ?_
  refine lv_iadd hx hb dL_law_900 ?_
  refine va_sld hx hb hX hbl hbA hS (li 1 (by decide) (by omega) hLn) dL_law_901 ?_
  have hM := k_X7_told l D ct z h ad (xs (Int32.toNatClampNeg (nI i + (1 : Int32)))) st 
  refine lvM (As := [.int (xs (Int32.toNatClampNeg (nI i + (1 : Int32))))]) (rest := [.int (f_X6_told (xs (Int32.toNatClampNeg (nI i + (1 : Int32)))) L I)]) (sk := [.int (f_X7_told (xs (Int32.toNatClampNeg (nI i + (1 : Int32)))) st), .int (f_X6_told (xs (Int32.toNatClampNeg (nI i + (1 : Int32)))) L I)]) ⟨hx, hb, hml, hown, hts⟩ hM gL_law_X7_told kyX7_told ⟨Nat.le_of_ble_eq_true rfl, Nat.le_of_ble_eq_true rfl⟩ rfl hK hP hD hS hA rfl hl.1 rfl rfl rfl ⟨Nat.le_of_ble_eq_true rfl, Nat.le_of_ble_eq_true rfl⟩ dL_law_902 (fun H locs hP hD hS => ?_)
  refine lv_icmp_eq (tgt := 910) hx hb dL_law_905 (by decide) (fun _ => ?_) (fun c9 => absurd heq c9)
  exact kk H locs hP hD hS
def lwS0 (Inv : (Nat → Nat → Int64) → (Nat → Nat → Int32) → (Nat → Nat → Int32) → Prop) : Prop := ∀ (L : Nat → Nat → Int64) (I st : Nat → Nat → Int32) (x1 x2 : Int32), Inv L I st → ((f_X6_land x1 x2 L I).1) = ((f_X7_land x1 x2 st).1) ∧ Inv ((f_X6_land x1 x2 L I).2) I ((f_X7_land x1 x2 st).2)
def lwS1 (Inv : (Nat → Nat → Int64) → (Nat → Nat → Int32) → (Nat → Nat → Int32) → Prop) : Prop := ∀ (L : Nat → Nat → Int64) (I st : Nat → Nat → Int32) (x1 x2 : Int32), Inv L I st → ((f_X6_ship x1 x2 L I).1) = ((f_X7_ship x1 x2 st).1) ∧ Inv L ((f_X6_ship x1 x2 L I).2) ((f_X7_ship x1 x2 st).2)
def lwS2 (Inv : (Nat → Nat → Int64) → (Nat → Nat → Int32) → (Nat → Nat → Int32) → Prop) : Prop := ∀ (L : Nat → Nat → Int64) (I st : Nat → Nat → Int32) (x1 x2 : Int32), Inv L I st → ((f_X6_watcher x1 x2 L I).1) = ((f_X7_watcher x1 x2 st).1) ∧ Inv L ((f_X6_watcher x1 x2 L I).2) ((f_X7_watcher x1 x2 st).2)
def lwS3 (Inv : (Nat → Nat → Int64) → (Nat → Nat → Int32) → (Nat → Nat → Int32) → Prop) : Prop := ∀ (L : Nat → Nat → Int64) (I st : Nat → Nat → Int32) (x1 : Int32), Inv L I st → ((f_X6_fog x1 L I).1) = ((f_X7_fog x1 st).1) ∧ Inv L ((f_X6_fog x1 L I).2) ((f_X7_fog x1 st).2)
def lwS4 (Inv : (Nat → Nat → Int64) → (Nat → Nat → Int32) → (Nat → Nat → Int32) → Prop) : Prop := ∀ (L : Nat → Nat → Int64) (I st : Nat → Nat → Int32) (x1 : Int32), Inv L I st → ((f_X6_say x1 L I).1) = ((f_X7_say x1 st).1) ∧ Inv L ((f_X6_say x1 L I).2) ((f_X7_say x1 st).2)
def lwS5 (Inv : (Nat → Nat → Int64) → (Nat → Nat → Int32) → (Nat → Nat → Int32) → Prop) : Prop := ∀ (L : Nat → Nat → Int64) (I st : Nat → Nat → Int32), Inv L I st → ((f_X6_wipe L I).1) = ((f_X7_wipe st).1) ∧ Inv L ((f_X6_wipe L I).2) ((f_X7_wipe st).2)
def lwS6 (Inv : (Nat → Nat → Int64) → (Nat → Nat → Int32) → (Nat → Nat → Int32) → Prop) : Prop := ∀ (L : Nat → Nat → Int64) (I st : Nat → Nat → Int32), Inv L I st → (f_X6_fault L I) = ((f_X7_fault st).1) ∧ Inv L I ((f_X7_fault st).2)
def lwS7 (Inv : (Nat → Nat → Int64) → (Nat → Nat → Int32) → (Nat → Nat → Int32) → Prop) : Prop := ∀ (L : Nat → Nat → Int64) (I st : Nat → Nat → Int32) (x1 : Int32), Inv L I st → ((f_X6_judge x1 L I).1) = ((f_X7_judge x1 st).1) ∧ Inv ((f_X6_judge x1 L I).2.1) ((f_X6_judge x1 L I).2.2) ((f_X7_judge x1 st).2)
def lwS8 (Inv : (Nat → Nat → Int64) → (Nat → Nat → Int32) → (Nat → Nat → Int32) → Prop) : Prop := ∀ (L : Nat → Nat → Int64) (I st : Nat → Nat → Int32) (x1 : Int32), Inv L I st → ((f_X6_behind x1 L I).1) = ((f_X7_behind x1 st).1) ∧ Inv ((f_X6_behind x1 L I).2.1) ((f_X6_behind x1 L I).2.2) ((f_X7_behind x1 st).2)
def lwS9 (Inv : (Nat → Nat → Int64) → (Nat → Nat → Int32) → (Nat → Nat → Int32) → Prop) : Prop := ∀ (L : Nat → Nat → Int64) (I st : Nat → Nat → Int32) (x1 : Int32), Inv L I st → ((f_X6_seen x1 L I).1) = ((f_X7_seen x1 st).1) ∧ Inv ((f_X6_seen x1 L I).2.1) ((f_X6_seen x1 L I).2.2) ((f_X7_seen x1 st).2)
def lwS10 (Inv : (Nat → Nat → Int64) → (Nat → Nat → Int32) → (Nat → Nat → Int32) → Prop) : Prop := ∀ (L : Nat → Nat → Int64) (I st : Nat → Nat → Int32) (x1 : Int32), Inv L I st → ((f_X6_silence x1 L I).1) = ((f_X7_silence x1 st).1) ∧ Inv ((f_X6_silence x1 L I).2.1) ((f_X6_silence x1 L I).2.2) ((f_X7_silence x1 st).2)
def lwS11 (Inv : (Nat → Nat → Int64) → (Nat → Nat → Int32) → (Nat → Nat → Int32) → Prop) : Prop := ∀ (L : Nat → Nat → Int64) (I st : Nat → Nat → Int32), Inv L I st → ((f_X6_done L I).1) = ((f_X7_done st).1) ∧ Inv ((f_X6_done L I).2.1) ((f_X6_done L I).2.2) ((f_X7_done st).2)
def lwS12 (Inv : (Nat → Nat → Int64) → (Nat → Nat → Int32) → (Nat → Nat → Int32) → Prop) : Prop := ∀ (L : Nat → Nat → Int64) (I st : Nat → Nat → Int32) (x1 x2 x3 : Int32), Inv L I st → (f_X6_course x1 x2 x3 L I) = ((f_X7_course x1 x2 x3 st).1) ∧ Inv L I ((f_X7_course x1 x2 x3 st).2)
def lwS13 (Inv : (Nat → Nat → Int64) → (Nat → Nat → Int32) → (Nat → Nat → Int32) → Prop) : Prop := ∀ (L : Nat → Nat → Int64) (I st : Nat → Nat → Int32) (x1 x2 x3 x4 x5 : Int32), Inv L I st → (f_X6_cross x1 x2 x3 x4 x5 L I) = (f_X7_cross x1 x2 x3 x4 x5 st) ∧ Inv L I st
def lwS14 (Inv : (Nat → Nat → Int64) → (Nat → Nat → Int32) → (Nat → Nat → Int32) → Prop) : Prop := ∀ (L : Nat → Nat → Int64) (I st : Nat → Nat → Int32) (x1 x2 x3 x4 : Int32), Inv L I st → ((f_X6_ropes x1 x2 x3 x4 L I).1) = ((f_X7_ropes x1 x2 x3 x4 st).1) ∧ Inv L ((f_X6_ropes x1 x2 x3 x4 L I).2) ((f_X7_ropes x1 x2 x3 x4 st).2)
def lwS15 (Inv : (Nat → Nat → Int64) → (Nat → Nat → Int32) → (Nat → Nat → Int32) → Prop) : Prop := ∀ (L : Nat → Nat → Int64) (I st : Nat → Nat → Int32) (x1 x2 : Int32), Inv L I st → ∀ v : Int32, (v = 0 ∨ v = 1) → ((f_X6_look x1 x2 v L I).1) = ((f_X7_look x1 x2 v st).1) ∧ Inv ((f_X6_look x1 x2 v L I).2.1) ((f_X6_look x1 x2 v L I).2.2) ((f_X7_look x1 x2 v st).2)
def lwS16 (Inv : (Nat → Nat → Int64) → (Nat → Nat → Int32) → (Nat → Nat → Int32) → Prop) : Prop := ∀ (L : Nat → Nat → Int64) (I st : Nat → Nat → Int32), Inv L I st → ((f_X6_forget L I).1) = ((f_X7_forget st).1) ∧ Inv ((f_X6_forget L I).2.1) ((f_X6_forget L I).2.2) ((f_X7_forget st).2)
def lwS17 (Inv : (Nat → Nat → Int64) → (Nat → Nat → Int32) → (Nat → Nat → Int32) → Prop) : Prop := ∀ (L : Nat → Nat → Int64) (I st : Nat → Nat → Int32) (x1 : Int32), Inv L I st → (f_X6_light x1 L I) = ((f_X7_light x1 st).1) ∧ Inv L I ((f_X7_light x1 st).2)
def lwS18 (Inv : (Nat → Nat → Int64) → (Nat → Nat → Int32) → (Nat → Nat → Int32) → Prop) : Prop := ∀ (L : Nat → Nat → Int64) (I st : Nat → Nat → Int32) (x1 : Int32), Inv L I st → (f_X6_ask x1 L I) = ((f_X7_ask x1 st).1) ∧ Inv L I ((f_X7_ask x1 st).2)
def lwS19 (Inv : (Nat → Nat → Int64) → (Nat → Nat → Int32) → (Nat → Nat → Int32) → Prop) : Prop := ∀ (L : Nat → Nat → Int64) (I st : Nat → Nat → Int32) (x1 x2 : Int32), Inv L I st → (f_X6_tack x1 x2 L I) = ((f_X7_tack x1 x2 st).1) ∧ Inv L I ((f_X7_tack x1 x2 st).2)
def lwS20 (Inv : (Nat → Nat → Int64) → (Nat → Nat → Int32) → (Nat → Nat → Int32) → Prop) : Prop := ∀ (L : Nat → Nat → Int64) (I st : Nat → Nat → Int32) (x1 x2 x3 x4 x5 : Int32), Inv L I st → ((f_X6_first x1 x2 x3 x4 x5 L I).1) = (f_X7_first x1 x2 x3 x4 x5 st) ∧ Inv ((f_X6_first x1 x2 x3 x4 x5 L I).2) I st
def lwS21 (Inv : (Nat → Nat → Int64) → (Nat → Nat → Int32) → (Nat → Nat → Int32) → Prop) : Prop := ∀ (L : Nat → Nat → Int64) (I st : Nat → Nat → Int32) (x1 x2 x3 : Int32), Inv L I st → ((f_X6_year x1 x2 x3 L I).1) = ((f_X7_year x1 x2 x3 st).1) ∧ Inv ((f_X6_year x1 x2 x3 L I).2.1) ((f_X6_year x1 x2 x3 L I).2.2) ((f_X7_year x1 x2 x3 st).2)
def lwS22 (Inv : (Nat → Nat → Int64) → (Nat → Nat → Int32) → (Nat → Nat → Int32) → Prop) : Prop := ∀ (L : Nat → Nat → Int64) (I st : Nat → Nat → Int32) (x1 : Int32), Inv L I st → ((f_X6_image x1 L I).1) = ((f_X7_image x1 st).1) ∧ Inv ((f_X6_image x1 L I).2.1) ((f_X6_image x1 L I).2.2) ((f_X7_image x1 st).2)
def lwS23 (Inv : (Nat → Nat → Int64) → (Nat → Nat → Int32) → (Nat → Nat → Int32) → Prop) : Prop := ∀ (L : Nat → Nat → Int64) (I st : Nat → Nat → Int32) (x1 : Int32), Inv L I st → ((f_X6_restore x1 L I).1) = ((f_X7_restore x1 st).1) ∧ Inv ((f_X6_restore x1 L I).2.1) ((f_X6_restore x1 L I).2.2) ((f_X7_restore x1 st).2)
def lwS24 (Inv : (Nat → Nat → Int64) → (Nat → Nat → Int32) → (Nat → Nat → Int32) → Prop) : Prop := ∀ (L : Nat → Nat → Int64) (I st : Nat → Nat → Int32) (x1 : Int32), Inv L I st → (f_X6_told x1 L I) = (f_X7_told x1 st) ∧ Inv L I st
theorem tiq {x : Int32} {n : Int} (y : Int32) (h : x.toInt = n) (hy : y.toInt = n) : x = y := Int32.toInt_inj.mp (h.trans hy.symm)
theorem sw25 (x : Int32) : x = 0 ∨ x = 1 ∨ x = 2 ∨ x = 3 ∨ x = 4 ∨ x = 5 ∨ x = 6 ∨ x = 7 ∨ x = 8 ∨ x = 9 ∨ x = 10 ∨ x = 11 ∨ x = 12 ∨ x = 13 ∨ x = 14 ∨ x = 15 ∨ x = 16 ∨ x = 17 ∨ x = 18 ∨ x = 19 ∨ x = 20 ∨ x = 21 ∨ x = 22 ∨ x = 23 ∨ x = 24 ∨ (x.toInt < 0 ∨ 24 < x.toInt) := by
  rcases (show x.toInt = 0 ∨ x.toInt = 1 ∨ x.toInt = 2 ∨ x.toInt = 3 ∨ x.toInt = 4 ∨ x.toInt = 5 ∨ x.toInt = 6 ∨ x.toInt = 7 ∨ x.toInt = 8 ∨ x.toInt = 9 ∨ x.toInt = 10 ∨ x.toInt = 11 ∨ x.toInt = 12 ∨ x.toInt = 13 ∨ x.toInt = 14 ∨ x.toInt = 15 ∨ x.toInt = 16 ∨ x.toInt = 17 ∨ x.toInt = 18 ∨ x.toInt = 19 ∨ x.toInt = 20 ∨ x.toInt = 21 ∨ x.toInt = 22 ∨ x.toInt = 23 ∨ x.toInt = 24 ∨ (x.toInt < 0 ∨ 24 < x.toInt) by omega) with h | h | h | h | h | h | h | h | h | h | h | h | h | h | h | h | h | h | h | h | h | h | h | h | h | h
  · exact Or.inl (tiq 0 h (by decide))
  · exact Or.inr (Or.inl (tiq 1 h (by decide)))
  · exact Or.inr (Or.inr (Or.inl (tiq 2 h (by decide))))
  · exact Or.inr (Or.inr (Or.inr (Or.inl (tiq 3 h (by decide)))))
  · exact Or.inr (Or.inr (Or.inr (Or.inr (Or.inl (tiq 4 h (by decide))))))
  · exact Or.inr (Or.inr (Or.inr (Or.inr (Or.inr (Or.inl (tiq 5 h (by decide)))))))
  · exact Or.inr (Or.inr (Or.inr (Or.inr (Or.inr (Or.inr (Or.inl (tiq 6 h (by decide))))))))
  · exact Or.inr (Or.inr (Or.inr (Or.inr (Or.inr (Or.inr (Or.inr (Or.inl (tiq 7 h (by decide)))))))))
  · exact Or.inr (Or.inr (Or.inr (Or.inr (Or.inr (Or.inr (Or.inr (Or.inr (Or.inl (tiq 8 h (by decide))))))))))
  · exact Or.inr (Or.inr (Or.inr (Or.inr (Or.inr (Or.inr (Or.inr (Or.inr (Or.inr (Or.inl (tiq 9 h (by decide)))))))))))
  · exact Or.inr (Or.inr (Or.inr (Or.inr (Or.inr (Or.inr (Or.inr (Or.inr (Or.inr (Or.inr (Or.inl (tiq 10 h (by decide))))))))))))
  · exact Or.inr (Or.inr (Or.inr (Or.inr (Or.inr (Or.inr (Or.inr (Or.inr (Or.inr (Or.inr (Or.inr (Or.inl (tiq 11 h (by decide)))))))))))))
  · exact Or.inr (Or.inr (Or.inr (Or.inr (Or.inr (Or.inr (Or.inr (Or.inr (Or.inr (Or.inr (Or.inr (Or.inr (Or.inl (tiq 12 h (by decide))))))))))))))
  · exact Or.inr (Or.inr (Or.inr (Or.inr (Or.inr (Or.inr (Or.inr (Or.inr (Or.inr (Or.inr (Or.inr (Or.inr (Or.inr (Or.inl (tiq 13 h (by decide)))))))))))))))
  · exact Or.inr (Or.inr (Or.inr (Or.inr (Or.inr (Or.inr (Or.inr (Or.inr (Or.inr (Or.inr (Or.inr (Or.inr (Or.inr (Or.inr (Or.inl (tiq 14 h (by decide))))))))))))))))
  · exact Or.inr (Or.inr (Or.inr (Or.inr (Or.inr (Or.inr (Or.inr (Or.inr (Or.inr (Or.inr (Or.inr (Or.inr (Or.inr (Or.inr (Or.inr (Or.inl (tiq 15 h (by decide)))))))))))))))))
  · exact Or.inr (Or.inr (Or.inr (Or.inr (Or.inr (Or.inr (Or.inr (Or.inr (Or.inr (Or.inr (Or.inr (Or.inr (Or.inr (Or.inr (Or.inr (Or.inr (Or.inl (tiq 16 h (by decide))))))))))))))))))
  · exact Or.inr (Or.inr (Or.inr (Or.inr (Or.inr (Or.inr (Or.inr (Or.inr (Or.inr (Or.inr (Or.inr (Or.inr (Or.inr (Or.inr (Or.inr (Or.inr (Or.inr (Or.inl (tiq 17 h (by decide)))))))))))))))))))
  · exact Or.inr (Or.inr (Or.inr (Or.inr (Or.inr (Or.inr (Or.inr (Or.inr (Or.inr (Or.inr (Or.inr (Or.inr (Or.inr (Or.inr (Or.inr (Or.inr (Or.inr (Or.inr (Or.inl (tiq 18 h (by decide))))))))))))))))))))
  · exact Or.inr (Or.inr (Or.inr (Or.inr (Or.inr (Or.inr (Or.inr (Or.inr (Or.inr (Or.inr (Or.inr (Or.inr (Or.inr (Or.inr (Or.inr (Or.inr (Or.inr (Or.inr (Or.inr (Or.inl (tiq 19 h (by decide)))))))))))))))))))))
  · exact Or.inr (Or.inr (Or.inr (Or.inr (Or.inr (Or.inr (Or.inr (Or.inr (Or.inr (Or.inr (Or.inr (Or.inr (Or.inr (Or.inr (Or.inr (Or.inr (Or.inr (Or.inr (Or.inr (Or.inr (Or.inl (tiq 20 h (by decide))))))))))))))))))))))
  · exact Or.inr (Or.inr (Or.inr (Or.inr (Or.inr (Or.inr (Or.inr (Or.inr (Or.inr (Or.inr (Or.inr (Or.inr (Or.inr (Or.inr (Or.inr (Or.inr (Or.inr (Or.inr (Or.inr (Or.inr (Or.inr (Or.inl (tiq 21 h (by decide)))))))))))))))))))))))
  · exact Or.inr (Or.inr (Or.inr (Or.inr (Or.inr (Or.inr (Or.inr (Or.inr (Or.inr (Or.inr (Or.inr (Or.inr (Or.inr (Or.inr (Or.inr (Or.inr (Or.inr (Or.inr (Or.inr (Or.inr (Or.inr (Or.inr (Or.inl (tiq 22 h (by decide))))))))))))))))))))))))
  · exact Or.inr (Or.inr (Or.inr (Or.inr (Or.inr (Or.inr (Or.inr (Or.inr (Or.inr (Or.inr (Or.inr (Or.inr (Or.inr (Or.inr (Or.inr (Or.inr (Or.inr (Or.inr (Or.inr (Or.inr (Or.inr (Or.inr (Or.inr (Or.inl (tiq 23 h (by decide)))))))))))))))))))))))))
  · exact Or.inr (Or.inr (Or.inr (Or.inr (Or.inr (Or.inr (Or.inr (Or.inr (Or.inr (Or.inr (Or.inr (Or.inr (Or.inr (Or.inr (Or.inr (Or.inr (Or.inr (Or.inr (Or.inr (Or.inr (Or.inr (Or.inr (Or.inr (Or.inr (Or.inl (tiq 24 h (by decide))))))))))))))))))))))))))
  · exact Or.inr (Or.inr (Or.inr (Or.inr (Or.inr (Or.inr (Or.inr (Or.inr (Or.inr (Or.inr (Or.inr (Or.inr (Or.inr (Or.inr (Or.inr (Or.inr (Or.inr (Or.inr (Or.inr (Or.inr (Or.inr (Or.inr (Or.inr (Or.inr (Or.inr (h)))))))))))))))))))))))))
set_option maxHeartbeats 4000000 in
set_option maxRecDepth 100000 in
theorem law_loop {p : Program} {l : Launch} {e : Env} {s : State} {m : MethodId} {below : List Frame} {meth : Method} {c : Code} {D : va_G} {ct : ClassId × ClassId × ClassId} {z : Nat × Nat} {b Ln : Nat} {xs : Nat → Int32} {cd ad : Nat → Nat} {h : Nat} (Inv : (Nat → Nat → Int64) → (Nat → Nat → Int32) → (Nat → Nat → Int32) → Prop) (hInv : ∀ L I st, Inv L I st → lwPre I st) (h0 : lwS0 Inv) (h1 : lwS1 Inv) (h2 : lwS2 Inv) (h3 : lwS3 Inv) (h4 : lwS4 Inv) (h5 : lwS5 Inv) (h6 : lwS6 Inv) (h7 : lwS7 Inv) (h8 : lwS8 Inv) (h9 : lwS9 Inv) (h10 : lwS10 Inv) (h11 : lwS11 Inv) (h12 : lwS12 Inv) (h13 : lwS13 Inv) (h14 : lwS14 Inv) (h15 : lwS15 Inv) (h16 : lwS16 Inv) (h17 : lwS17 Inv) (h18 : lwS18 Inv) (h19 : lwS19 Inv) (h20 : lwS20 Inv) (h21 : lwS21 Inv) (h22 : lwS22 Inv) (h23 : lwS23 Inv) (h24 : lwS24 Inv) (hLn : Ln ≤ 384) (C0 : lw_At p s m meth c b Ln xs) (hK : kK D ct z (fun q : Nat => s.heap.size ≤ q) s) :
    ∀ (n i : Nat) (L : Nat → Nat → Int64) (I st : Nat → Nat → Int32), i ≤ Ln → Ln + 1 ≤ i + n → Inv L I st → ∀ (H : Heap) (locs : List Loc) (ls : Array Slot), lv_has ls 4 [(3, .int (nI i)), (2, .ref h), (1, .ref (cd 0)), (0, .ref b)] → va_P D vwCl (xW cd ct L I ++ mW h ad ct st) H → va_D (fun q : Nat => s.heap.size ≤ q) (xW cd ct L I ++ mW h ad ct st) → va_S (fun q : Nat => s.heap.size ≤ q) s.heap H locs → W p l e room_1 s m #[Value.ref b] below meth c H locs 35 1922 (lw_Z below #[Value.ref b] s) (F0 m 18 ls []) := by
  have C1 := C0
  obtain ⟨hx, hb, hr, hml, hown, hts0, hX, hbl, hlocks, hgv⟩ := C1
  have hbA : ¬ (fun q : Nat => s.heap.size ≤ q) b := Nat.not_le.mpr hbl
  intro n
  induction n with
  | zero =>
    intro i L I st h1 h2
    exact absurd h2 (by omega)
  | succ n ih =>
    intro i L I st hi hn hR H locs ls hl hP hD hS
    refine lv_iload_n hx hb dL_law_18 rfl (lv_at hl 0 rfl) ?_
    refine lv_aload_n hx hb dL_law_19 rfl (lv_at hl 3 rfl) ?_
    refine va_slen hx hb hX hbl hbA hS dL_law_20 ?_
    refine lv_bipush (v := (6 : Int32)) hx hb dL_law_21 (by decide) ?_
    refine lv_isub hx hb dL_law_23 ?_
    have e6 : Int32.toInt (nI Ln - (6 : Int32)) = (Ln : Int) - 6 := ti_sub (by rw [nI_toInt (by omega)]; rfl) (by omega) (by omega)
    have ei : Int32.toInt (nI i) = (i : Int) := nI_toInt (by omega)
    refine lv_icmp_gt (tgt := 916) hx hb dL_law_24 (by decide) (fun c1 => ?_) (fun c1 => ?_)
    · refine lv_iconst (v := 1) hx hb dL_law_916 (by decide) ?_
      refine va_forget (fun q hq => hS.2.2 q hq) ?_
      exact lw_ret hx hb hr hlocks dL_law_917
    · have t1 : (nI i).toInt ≤ (nI Ln - (6 : Int32)).toInt := ti_nlt c1
      rw [e6, ei] at t1
      have hi6 : i + 6 ≤ Ln := by omega
      have hp := hInv L I st hR
      have kk : ∀ (L1 : Nat → Nat → Int64) (I1 st1 : Nat → Nat → Int32), Inv L1 I1 st1 → ∀ (H1 : Heap) (locs1 : List Loc), va_P D vwCl (xW cd ct L1 I1 ++ mW h ad ct st1) H1 → va_D (fun q : Nat => s.heap.size ≤ q) (xW cd ct L1 I1 ++ mW h ad ct st1) → va_S (fun q : Nat => s.heap.size ≤ q) s.heap H1 locs1 → W p l e room_1 s m #[Value.ref b] below meth c H1 locs1 35 1922 (lw_Z below #[Value.ref b] s) (F0 m 910 ls []) := by
        intro L1 I1 st1 hR1 H1 locs1 hP1 hD1 hS1
        refine lv_iinc (v := nI (i + 6)) (lv' := [(3, .int (nI (i + 6))), (2, .ref h), (1, .ref (cd 0)), (0, .ref b)]) hx hb dL_law_910 hl (k := 0) rfl (by rw [show Int32.ofInt 6 = nI 6 from by decide]; exact nI_add i 6) (by decide) rfl (fun ls hl => ?_)
        refine lv_goto (tgt := 18) hx hb dL_law_913 (by decide) ?_
        exact ih (i + 6) L1 I1 st1 hi6 (by omega) hR1 H1 locs1 ls hl hP1 hD1 hS1
      refine lv_aload_n hx hb dL_law_27 rfl (lv_at hl 3 rfl) ?_
      refine lv_iload_n hx hb dL_law_28 rfl (lv_at hl 0 rfl) ?_
      refine va_sld hx hb hX hbl hbA hS (li0 (by omega) hLn) dL_law_29 ?_
      refine lv_bipush (v := (31 : Int32)) hx hb dL_law_30 (by decide) ?_
      refine lv_iand hx hb dL_law_32 ?_
      refine lv_topi (fun y ey => ?_)
      rcases sw25 y with c0 | c0 | c0 | c0 | c0 | c0 | c0 | c0 | c0 | c0 | c0 | c0 | c0 | c0 | c0 | c0 | c0 | c0 | c0 | c0 | c0 | c0 | c0 | c0 | c0 | c0
      · have kv : (0 : Int32).toInt = 0 := by decide
        have t2 := ti_eq c0
        refine lv_tableIn (off := 115) (tgt := 148) hx hb dL_law_33 (by omega) (by omega) (by rw [c0]; decide) (by decide) ?_
        exact lw_c0 C0 hK hi6 hLn hp hl hP hD hS (h0 L I st (xs (Int32.toNatClampNeg (nI i + (1 : Int32)))) (xs (Int32.toNatClampNeg (nI i + (2 : Int32)))) hR).1 (kk _ _ _ (h0 L I st (xs (Int32.toNatClampNeg (nI i + (1 : Int32)))) (xs (Int32.toNatClampNeg (nI i + (2 : Int32)))) hR).2)
      · have kv : (1 : Int32).toInt = 1 := by decide
        have t2 := ti_eq c0
        refine lv_tableIn (off := 148) (tgt := 181) hx hb dL_law_33 (by omega) (by omega) (by rw [c0]; decide) (by decide) ?_
        exact lw_c1 C0 hK hi6 hLn hp hl hP hD hS (h1 L I st (xs (Int32.toNatClampNeg (nI i + (1 : Int32)))) (xs (Int32.toNatClampNeg (nI i + (2 : Int32)))) hR).1 (kk _ _ _ (h1 L I st (xs (Int32.toNatClampNeg (nI i + (1 : Int32)))) (xs (Int32.toNatClampNeg (nI i + (2 : Int32)))) hR).2)
      · have kv : (2 : Int32).toInt = 2 := by decide
        have t2 := ti_eq c0
        refine lv_tableIn (off := 181) (tgt := 214) hx hb dL_law_33 (by omega) (by omega) (by rw [c0]; decide) (by decide) ?_
        exact lw_c2 C0 hK hi6 hLn hp hl hP hD hS (h2 L I st (xs (Int32.toNatClampNeg (nI i + (1 : Int32)))) (xs (Int32.toNatClampNeg (nI i + (2 : Int32)))) hR).1 (kk _ _ _ (h2 L I st (xs (Int32.toNatClampNeg (nI i + (1 : Int32)))) (xs (Int32.toNatClampNeg (nI i + (2 : Int32)))) hR).2)
      · have kv : (3 : Int32).toInt = 3 := by decide
        have t2 := ti_eq c0
        refine lv_tableIn (off := 214) (tgt := 247) hx hb dL_law_33 (by omega) (by omega) (by rw [c0]; decide) (by decide) ?_
        exact lw_c3 C0 hK hi6 hLn hp hl hP hD hS (h3 L I st (xs (Int32.toNatClampNeg (nI i + (1 : Int32)))) hR).1 (kk _ _ _ (h3 L I st (xs (Int32.toNatClampNeg (nI i + (1 : Int32)))) hR).2)
      · have kv : (4 : Int32).toInt = 4 := by decide
        have t2 := ti_eq c0
        refine lv_tableIn (off := 237) (tgt := 270) hx hb dL_law_33 (by omega) (by omega) (by rw [c0]; decide) (by decide) ?_
        exact lw_c4 C0 hK hi6 hLn hp hl hP hD hS (h4 L I st (xs (Int32.toNatClampNeg (nI i + (1 : Int32)))) hR).1 (kk _ _ _ (h4 L I st (xs (Int32.toNatClampNeg (nI i + (1 : Int32)))) hR).2)
      · have kv : (5 : Int32).toInt = 5 := by decide
        have t2 := ti_eq c0
        refine lv_tableIn (off := 260) (tgt := 293) hx hb dL_law_33 (by omega) (by omega) (by rw [c0]; decide) (by decide) ?_
        exact lw_c5 C0 hK hi6 hLn hp hl hP hD hS (h5 L I st  hR).1 (kk _ _ _ (h5 L I st  hR).2)
      · have kv : (6 : Int32).toInt = 6 := by decide
        have t2 := ti_eq c0
        refine lv_tableIn (off := 273) (tgt := 306) hx hb dL_law_33 (by omega) (by omega) (by rw [c0]; decide) (by decide) ?_
        exact lw_c6 C0 hK hi6 hLn hp hl hP hD hS (h6 L I st  hR).1 (kk _ _ _ (h6 L I st  hR).2)
      · have kv : (7 : Int32).toInt = 7 := by decide
        have t2 := ti_eq c0
        refine lv_tableIn (off := 286) (tgt := 319) hx hb dL_law_33 (by omega) (by omega) (by rw [c0]; decide) (by decide) ?_
        exact lw_c7 C0 hK hi6 hLn hp hl hP hD hS (h7 L I st (xs (Int32.toNatClampNeg (nI i + (1 : Int32)))) hR).1 (kk _ _ _ (h7 L I st (xs (Int32.toNatClampNeg (nI i + (1 : Int32)))) hR).2)
      · have kv : (8 : Int32).toInt = 8 := by decide
        have t2 := ti_eq c0
        refine lv_tableIn (off := 309) (tgt := 342) hx hb dL_law_33 (by omega) (by omega) (by rw [c0]; decide) (by decide) ?_
        exact lw_c8 C0 hK hi6 hLn hp hl hP hD hS (h8 L I st (xs (Int32.toNatClampNeg (nI i + (1 : Int32)))) hR).1 (kk _ _ _ (h8 L I st (xs (Int32.toNatClampNeg (nI i + (1 : Int32)))) hR).2)
      · have kv : (9 : Int32).toInt = 9 := by decide
        have t2 := ti_eq c0
        refine lv_tableIn (off := 332) (tgt := 365) hx hb dL_law_33 (by omega) (by omega) (by rw [c0]; decide) (by decide) ?_
        exact lw_c9 C0 hK hi6 hLn hp hl hP hD hS (h9 L I st (xs (Int32.toNatClampNeg (nI i + (1 : Int32)))) hR).1 (kk _ _ _ (h9 L I st (xs (Int32.toNatClampNeg (nI i + (1 : Int32)))) hR).2)
      · have kv : (10 : Int32).toInt = 10 := by decide
        have t2 := ti_eq c0
        refine lv_tableIn (off := 355) (tgt := 388) hx hb dL_law_33 (by omega) (by omega) (by rw [c0]; decide) (by decide) ?_
        exact lw_c10 C0 hK hi6 hLn hp hl hP hD hS (h10 L I st (xs (Int32.toNatClampNeg (nI i + (1 : Int32)))) hR).1 (kk _ _ _ (h10 L I st (xs (Int32.toNatClampNeg (nI i + (1 : Int32)))) hR).2)
      · have kv : (11 : Int32).toInt = 11 := by decide
        have t2 := ti_eq c0
        refine lv_tableIn (off := 378) (tgt := 411) hx hb dL_law_33 (by omega) (by omega) (by rw [c0]; decide) (by decide) ?_
        exact lw_c11 C0 hK hi6 hLn hp hl hP hD hS (h11 L I st  hR).1 (kk _ _ _ (h11 L I st  hR).2)
      · have kv : (12 : Int32).toInt = 12 := by decide
        have t2 := ti_eq c0
        refine lv_tableIn (off := 391) (tgt := 424) hx hb dL_law_33 (by omega) (by omega) (by rw [c0]; decide) (by decide) ?_
        exact lw_c12 C0 hK hi6 hLn hp hl hP hD hS (h12 L I st (xs (Int32.toNatClampNeg (nI i + (1 : Int32)))) (xs (Int32.toNatClampNeg (nI i + (2 : Int32)))) (xs (Int32.toNatClampNeg (nI i + (3 : Int32)))) hR).1 (kk _ _ _ (h12 L I st (xs (Int32.toNatClampNeg (nI i + (1 : Int32)))) (xs (Int32.toNatClampNeg (nI i + (2 : Int32)))) (xs (Int32.toNatClampNeg (nI i + (3 : Int32)))) hR).2)
      · have kv : (13 : Int32).toInt = 13 := by decide
        have t2 := ti_eq c0
        refine lv_tableIn (off := 434) (tgt := 467) hx hb dL_law_33 (by omega) (by omega) (by rw [c0]; decide) (by decide) ?_
        exact lw_c13 C0 hK hi6 hLn hp hl hP hD hS (h13 L I st (xs (Int32.toNatClampNeg (nI i + (1 : Int32)))) (xs (Int32.toNatClampNeg (nI i + (2 : Int32)))) (xs (Int32.toNatClampNeg (nI i + (3 : Int32)))) (xs (Int32.toNatClampNeg (nI i + (4 : Int32)))) (xs (Int32.toNatClampNeg (nI i + (5 : Int32)))) hR).1 (kk _ _ _ (h13 L I st (xs (Int32.toNatClampNeg (nI i + (1 : Int32)))) (xs (Int32.toNatClampNeg (nI i + (2 : Int32)))) (xs (Int32.toNatClampNeg (nI i + (3 : Int32)))) (xs (Int32.toNatClampNeg (nI i + (4 : Int32)))) (xs (Int32.toNatClampNeg (nI i + (5 : Int32)))) hR).2)
      · have kv : (14 : Int32).toInt = 14 := by decide
        have t2 := ti_eq c0
        refine lv_tableIn (off := 497) (tgt := 530) hx hb dL_law_33 (by omega) (by omega) (by rw [c0]; decide) (by decide) ?_
        exact lw_c14 C0 hK hi6 hLn hp hl hP hD hS (h14 L I st (xs (Int32.toNatClampNeg (nI i + (1 : Int32)))) (xs (Int32.toNatClampNeg (nI i + (2 : Int32)))) (xs (Int32.toNatClampNeg (nI i + (3 : Int32)))) (xs (Int32.toNatClampNeg (nI i + (4 : Int32)))) hR).1 (kk _ _ _ (h14 L I st (xs (Int32.toNatClampNeg (nI i + (1 : Int32)))) (xs (Int32.toNatClampNeg (nI i + (2 : Int32)))) (xs (Int32.toNatClampNeg (nI i + (3 : Int32)))) (xs (Int32.toNatClampNeg (nI i + (4 : Int32)))) hR).2)
      · have kv : (15 : Int32).toInt = 15 := by decide
        have t2 := ti_eq c0
        refine lv_tableIn (off := 550) (tgt := 583) hx hb dL_law_33 (by omega) (by omega) (by rw [c0]; decide) (by decide) ?_
        exact lw_c15 C0 hK hi6 hLn hp hl hP hD hS (fun v hv => (h15 L I st (xs (Int32.toNatClampNeg (nI i + (1 : Int32)))) (xs (Int32.toNatClampNeg (nI i + (2 : Int32)))) hR v hv).1) (fun v hv => kk _ _ _ (h15 L I st (xs (Int32.toNatClampNeg (nI i + (1 : Int32)))) (xs (Int32.toNatClampNeg (nI i + (2 : Int32)))) hR v hv).2)
      · have kv : (16 : Int32).toInt = 16 := by decide
        have t2 := ti_eq c0
        refine lv_tableIn (off := 609) (tgt := 642) hx hb dL_law_33 (by omega) (by omega) (by rw [c0]; decide) (by decide) ?_
        exact lw_c16 C0 hK hi6 hLn hp hl hP hD hS (h16 L I st  hR).1 (kk _ _ _ (h16 L I st  hR).2)
      · have kv : (17 : Int32).toInt = 17 := by decide
        have t2 := ti_eq c0
        refine lv_tableIn (off := 622) (tgt := 655) hx hb dL_law_33 (by omega) (by omega) (by rw [c0]; decide) (by decide) ?_
        exact lw_c17 C0 hK hi6 hLn hp hl hP hD hS (h17 L I st (xs (Int32.toNatClampNeg (nI i + (1 : Int32)))) hR).1 (kk _ _ _ (h17 L I st (xs (Int32.toNatClampNeg (nI i + (1 : Int32)))) hR).2)
      · have kv : (18 : Int32).toInt = 18 := by decide
        have t2 := ti_eq c0
        refine lv_tableIn (off := 645) (tgt := 678) hx hb dL_law_33 (by omega) (by omega) (by rw [c0]; decide) (by decide) ?_
        exact lw_c18 C0 hK hi6 hLn hp hl hP hD hS (h18 L I st (xs (Int32.toNatClampNeg (nI i + (1 : Int32)))) hR).1 (kk _ _ _ (h18 L I st (xs (Int32.toNatClampNeg (nI i + (1 : Int32)))) hR).2)
      · have kv : (19 : Int32).toInt = 19 := by decide
        have t2 := ti_eq c0
        refine lv_tableIn (off := 668) (tgt := 701) hx hb dL_law_33 (by omega) (by omega) (by rw [c0]; decide) (by decide) ?_
        exact lw_c19 C0 hK hi6 hLn hp hl hP hD hS (h19 L I st (xs (Int32.toNatClampNeg (nI i + (1 : Int32)))) (xs (Int32.toNatClampNeg (nI i + (2 : Int32)))) hR).1 (kk _ _ _ (h19 L I st (xs (Int32.toNatClampNeg (nI i + (1 : Int32)))) (xs (Int32.toNatClampNeg (nI i + (2 : Int32)))) hR).2)
      · have kv : (20 : Int32).toInt = 20 := by decide
        have t2 := ti_eq c0
        refine lv_tableIn (off := 701) (tgt := 734) hx hb dL_law_33 (by omega) (by omega) (by rw [c0]; decide) (by decide) ?_
        exact lw_c20 C0 hK hi6 hLn hp hl hP hD hS (h20 L I st (xs (Int32.toNatClampNeg (nI i + (1 : Int32)))) (xs (Int32.toNatClampNeg (nI i + (2 : Int32)))) (xs (Int32.toNatClampNeg (nI i + (3 : Int32)))) (xs (Int32.toNatClampNeg (nI i + (4 : Int32)))) (xs (Int32.toNatClampNeg (nI i + (5 : Int32)))) hR).1 (kk _ _ _ (h20 L I st (xs (Int32.toNatClampNeg (nI i + (1 : Int32)))) (xs (Int32.toNatClampNeg (nI i + (2 : Int32)))) (xs (Int32.toNatClampNeg (nI i + (3 : Int32)))) (xs (Int32.toNatClampNeg (nI i + (4 : Int32)))) (xs (Int32.toNatClampNeg (nI i + (5 : Int32)))) hR).2)
      · have kv : (21 : Int32).toInt = 21 := by decide
        have t2 := ti_eq c0
        refine lv_tableIn (off := 765) (tgt := 798) hx hb dL_law_33 (by omega) (by omega) (by rw [c0]; decide) (by decide) ?_
        exact lw_c21 C0 hK hi6 hLn hp hl hP hD hS (h21 L I st (xs (Int32.toNatClampNeg (nI i + (1 : Int32)))) (xs (Int32.toNatClampNeg (nI i + (2 : Int32)))) (xs (Int32.toNatClampNeg (nI i + (3 : Int32)))) hR).1 (kk _ _ _ (h21 L I st (xs (Int32.toNatClampNeg (nI i + (1 : Int32)))) (xs (Int32.toNatClampNeg (nI i + (2 : Int32)))) (xs (Int32.toNatClampNeg (nI i + (3 : Int32)))) hR).2)
      · have kv : (22 : Int32).toInt = 22 := by decide
        have t2 := ti_eq c0
        refine lv_tableIn (off := 808) (tgt := 841) hx hb dL_law_33 (by omega) (by omega) (by rw [c0]; decide) (by decide) ?_
        exact lw_c22 C0 hK hi6 hLn hp hl hP hD hS (h22 L I st (xs (Int32.toNatClampNeg (nI i + (1 : Int32)))) hR).1 (kk _ _ _ (h22 L I st (xs (Int32.toNatClampNeg (nI i + (1 : Int32)))) hR).2)
      · have kv : (23 : Int32).toInt = 23 := by decide
        have t2 := ti_eq c0
        refine lv_tableIn (off := 831) (tgt := 864) hx hb dL_law_33 (by omega) (by omega) (by rw [c0]; decide) (by decide) ?_
        exact lw_c23 C0 hK hi6 hLn hp hl hP hD hS (h23 L I st (xs (Int32.toNatClampNeg (nI i + (1 : Int32)))) hR).1 (kk _ _ _ (h23 L I st (xs (Int32.toNatClampNeg (nI i + (1 : Int32)))) hR).2)
      · have kv : (24 : Int32).toInt = 24 := by decide
        have t2 := ti_eq c0
        refine lv_tableIn (off := 854) (tgt := 887) hx hb dL_law_33 (by omega) (by omega) (by rw [c0]; decide) (by decide) ?_
        exact lw_c24 C0 hK hi6 hLn hp hl hP hD hS (h24 L I st (xs (Int32.toNatClampNeg (nI i + (1 : Int32)))) hR).1 (kk _ _ _ (h24 L I st (xs (Int32.toNatClampNeg (nI i + (1 : Int32)))) hR).2)
      · refine lv_tableOut (tgt := 910) hx hb dL_law_33 (by omega) (by decide) ?_
        exact kk L I st hR H locs hP hD hS
