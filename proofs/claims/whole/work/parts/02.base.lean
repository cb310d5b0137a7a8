/-! the plan's own words: contracts of one form (an answer and a world are functions of what went in), the head of a method, its end, a call; combinators that follow a pure function along the walk -/
/-- combinators: a named value, a joint of roads -/
def lt_ {α β : Type} (e : α) (b : α → β) : β := b e
def jn_ {J β : Type} (j : J) (b : J → β) : β := b j
theorem kLt {α β : Type} {r : β} {e x : α} {b : α → β} (hf : r = lt_ e b) (hx : x = e) : r = b x := by subst hx; exact hf
theorem kIt {β : Type} {r a b : β} {c : Prop} {d : Decidable c} (hf : r = @ite β c d a b) (h : c) : r = a := hf.trans (if_pos h)
theorem kIf {β : Type} {r a b : β} {c : Prop} {d : Decidable c} (hf : r = @ite β c d a b) (h : ¬ c) : r = b := hf.trans (if_neg h)
theorem kJn {J β : Type} {r : β} {P : Prop} {j : J} {b : J → β} (hf : r = jn_ j b) (C : J → Prop) (hJ : ∀ j0 : J, j0 = j → C j0) (main : ∀ j0 : J, C j0 → r = b j0 → P) : P := main j (hJ j rfl) hf
/-- a row by place and index -/
def u1 {α : Type} (f : Nat → α) (k : Nat) (v : α) : Nat → α := fun j => if j = k then v else f j
def u2 {α : Type} (st : Nat → Nat → α) (p k : Nat) (v : α) : Nat → Nat → α := fun q => if q = p then (fun j => if j = k then v else st p j) else st q
def rw2 {α : Type} (st : Nat → Nat → α) (p : Nat) (f : Nat → α) : Nat → Nat → α := fun q => if q = p then f else st q
/-- Java's own remainder and shifts, as the rows leave them -/
abbrev jr (x y : Int32) : Int32 := x - x / y * y
abbrev jrL (x y : Int64) : Int64 := x - x / y * y
abbrev jshl (x y : Int32) : Int32 := x <<< (y &&& 31)
abbrev jshr (x y : Int32) : Int32 := x >>> (y &&& 31)
abbrev jshlL (x : Int64) (y : Int32) : Int64 := x <<< (y.toInt64 &&& 63)
abbrev jushrL (x : Int64) (y : Int32) : Int64 := (x.toUInt64 >>> (y.toInt64.toUInt64 &&& Int64.toUInt64 63)).toInt64
def jmax (x y : Int32) : Int32 := if x < y then y else x
def jmin (x y : Int32) : Int32 := if y < x then y else x
/-- numbers as integers -/
theorem ti_lt {x y : Int32} (h : x < y) : x.toInt < y.toInt := Int32.lt_iff_toInt_lt.mp h
theorem ti_le {x y : Int32} (h : x ≤ y) : x.toInt ≤ y.toInt := Int32.le_iff_toInt_le.mp h
theorem ti_nlt {x y : Int32} (h : ¬ x < y) : y.toInt ≤ x.toInt := Int.not_lt.mp fun q => h (Int32.lt_iff_toInt_lt.mpr q)
theorem ti_nle {x y : Int32} (h : ¬ x ≤ y) : y.toInt < x.toInt := Int.not_le.mp fun q => h (Int32.le_iff_toInt_le.mpr q)
theorem ti_eq {x y : Int32} (h : x = y) : x.toInt = y.toInt := by rw [h]
theorem ti_ne {x y : Int32} (h : ¬ x = y) : x.toInt ≠ y.toInt := fun q => h (Int32.toInt_inj.mp q)
theorem tl_lt {x y : Int64} (h : x < y) : x.toInt < y.toInt := Int64.lt_iff_toInt_lt.mp h
theorem tl_nlt {x y : Int64} (h : ¬ x < y) : y.toInt ≤ x.toInt := Int.not_lt.mp fun q => h (Int64.lt_iff_toInt_lt.mpr q)
theorem ti_rng (x : Int32) : -2147483648 ≤ x.toInt ∧ x.toInt < 2147483648 := ⟨Int32.le_toInt x, Int32.toInt_lt x⟩
theorem ti_bmod {z : Int} (h1 : -2147483648 ≤ z) (h2 : z < 2147483648) : z.bmod (2 ^ 32) = z := by rw [Int.bmod_eq_of_le] <;> omega
theorem ti_add {x y : Int32} {z : Int} (h : x.toInt + y.toInt = z) (h1 : -2147483648 ≤ z) (h2 : z < 2147483648) : (x + y).toInt = z := by rw [Int32.toInt_add, h, ti_bmod h1 h2]
theorem ti_sub {x y : Int32} {z : Int} (h : x.toInt - y.toInt = z) (h1 : -2147483648 ≤ z) (h2 : z < 2147483648) : (x - y).toInt = z := by rw [Int32.toInt_sub, h, ti_bmod h1 h2]
theorem ti_mul {x y : Int32} {z : Int} (h : x.toInt * y.toInt = z) (h1 : -2147483648 ≤ z) (h2 : z < 2147483648) : (x * y).toInt = z := by rw [Int32.toInt_mul, h, ti_bmod h1 h2]
theorem vin {x : Int32} {n : Nat} (h0 : 0 ≤ x.toInt) (h1 : x.toInt < n) : vp_in x n := vp_in_iff.mpr ⟨h0, h1⟩
/-- the statics, the classes: what every contract of ours stands on -/
def rowsV (j : Nat) : Int32 := ([-1, -1, 0, 1, 1, 1, 0, -1] : List Int32).getD j 0
def colsV (j : Nat) : Int32 := ([0, 1, 1, 1, 0, -1, -1, -1] : List Int32).getD j 0
def rowsF : Nat → Value := fun j => .int (rowsV j)
def colsF : Nat → Value := fun j => .int (colsV j)
/-- the row of images -/
def imF (cd : Nat → Nat) : Nat → Option Nat := fun j => if j = 0 then some (cd 14) else some (cd 16)
theorem im_0 {cd : Nat → Nat} {k : Int32} (h : k = 0) : va_rf (imF cd k.toNatClampNeg) = .ref (cd 14) := by subst h; rfl
theorem im_1 {cd : Nat → Nat} {k : Int32} (hin : vp_in k 2) (h : ¬ k = 0) : va_rf (imF cd k.toNatClampNeg) = .ref (cd 16) := by
  obtain ⟨j, hj, rfl⟩ := vp_in_of hin (by decide)
  have hj0 : ¬ j = 0 := fun q => h (by rw [q]; rfl)
  rw [nI_clamp (by omega)]
  simp only [imF, if_neg hj0, va_rf]
abbrev kTy (ct : ClassId × ClassId × ClassId) : List (ClassId × FieldType) := [(ct.1, .int), (ct.2.1, .boolean), (ct.2.2, .object "MastPulpits$Sea")]
def kS (z : Nat × Nat) (A : Nat → Prop) (U : State) (H : Heap) : Prop := va_Z RX0 "ROWS_OF_WAY" "[I" (.ref z.1) A U H ∧ va_T .int z.1 8 rowsF A U H ∧ va_Z RX0 "COLUMNS_OF_WAY" "[I" (.ref z.2) A U H ∧ va_T .int z.2 8 colsF A U H
theorem kS.moved {z : Nat × Nat} {A : Nat → Prop} {u U : State} {H : Heap} (hvm : u.vm.Alike U.vm) (h : kS z A u H) : kS z A U H := ⟨h.1.moved hvm, h.2.1.moved hvm, h.2.2.1.moved hvm, h.2.2.2.moved hvm⟩
theorem kS.kept {z : Nat × Nat} {A : Nat → Prop} {U : State} {H H1 : Heap} (h : kS z A U H) (hq : ∀ a : Nat, a < H.size → ¬ A a → H1[a]? = H[a]?) : kS z A U H1 := ⟨h.1.kept hq, h.2.1.kept hq, h.2.2.1.kept hq, h.2.2.2.kept hq⟩
theorem kS.narrow {z : Nat × Nat} {A B : Nat → Prop} {U : State} {H : Heap} (h : kS z A U H) (hAB : ∀ q, B q → A q) : kS z B U H := ⟨h.1.narrow hAB, h.2.1.narrow hAB, h.2.2.1.narrow hAB, h.2.2.2.narrow hAB⟩
def kK (D : va_G) (ct : ClassId × ClassId × ClassId) (z : Nat × Nat) (A : Nat → Prop) (U : State) : Prop := va_K D vwCl (kTy ct) U ∧ kS z A U U.heap
/-- a contract: what comes in, what goes out -/
def kPre (D : va_G) (ct : ClassId × ClassId × ClassId) (z : Nat × Nat) (w0 : va_W) (sz : Nat) (U : State) : Prop := U.heap.size = sz ∧ va_P D vwCl w0 U.heap ∧ va_D (fun _ => True) w0 ∧ kK D ct z (va_A w0 sz) U
def kQ (D : va_G) (w1 : va_W) (A : Nat → Prop) (v : Option Value) : Array Value → State → Outcome → State → Prop := fun _ st oc t => (oc = .returned v ∧ va_P D vwCl w1 t.heap ∧ va_D A w1) ∧ va_F A st t
def kC (l : Launch) (D : va_G) (ct : ClassId × ClassId × ClassId) (z : Nat × Nat) (y : MethodName) (ws : List Cond) (fr lo : Nat) (av : List Value) (w0 : va_W) (v : Option Value) (w1 : va_W) : Prop :=
  ∀ sz : Nat, Met l y ws { frames := fr, cells := 0, slots := 0, locals := lo } (va_Pc av (kPre D ct z w0 sz)) (kQ D w1 (va_A w0 sz) v) 0 0 (va_A w0 sz)
theorem kBlind (D : va_G) (ct : ClassId × ClassId × ClassId) (z : Nat × Nat) (w0 : va_W) (sz : Nat) (av : List Value) : FrameBlind (va_Pc av (kPre D ct z w0 sz)) := by
  intro a U g mk h
  obtain ⟨h1, h2, h3, h4, h5, h6⟩ := h
  exact ⟨h1, h2, h3, h4, va_K.moved (u := U) (U := U.calling g mk a) (Vm.Alike.refl U.vm) h5, kS.moved (u := U) (U := U.calling g mk a) (Vm.Alike.refl U.vm) h6⟩
/-- the head of a method -/
theorem kHead {l : Launch} {D : va_G} {ct : ClassId × ClassId × ClassId} {z : Nat × Nat} {y : MethodName} {ws ws' : List Cond} {fr lo : Nat} {av : List Value} {w0 w1 : va_W} {v : Option Value} {cc : ByteArray} {maxL : Nat} {ret : Option FieldType} (lv : List (Nat × Value))
    (hy : plainName y.cls = true) (hw : ws = Cond.code y cc maxL ret :: ws') (hn : (lg_sl av).length ≤ maxL) (hlv : lv_args 0 av = lv)
    (body : ∀ (p : Program) (e : Env) (s : State) (m : MethodId) (args : Array Value) (below : List Frame) (meth : Method) (c : Code) (A : Nat → Prop) (ls : Array Slot) (R : Room) (Q : State → Prop), R.frames = fr → R.locals = lo → Q = MQ below (kQ D w1 A v) args s 0 0 A → p.tables.exec = Jvm.exec → c.code = cc → meth.sig.returnType = ret → meth.locks = false → c.maxLocals = maxL → s.vm.findClass y.cls = some m.cls → (∀ w ∈ ws, w.before args s = true) →
      (∀ q : Nat, s.heap.size ≤ q → A q) → va_S A s.heap s.heap [] → kK D ct z A s → va_P D vwCl w0 s.heap → va_D A w0 → lv_has ls maxL lv →
      W p l e R s m args below meth c s.heap [] 0 0 Q (F0 m 0 ls [])) : kC l D ct z y ws fr lo av w0 v w1 := by
  intro sz
  refine Met.ofW (cc := cc) (maxL := maxL) (ret := ret) hy hw ?_
  intro p e s m args below meth c s₁ B hml hP
  obtain ⟨rfl, rfl, hP, hD, hK⟩ := hP
  have hts := atoms_spec (ws := ws) B.pre
  have hown : s.vm.findClass y.cls = some m.cls := findClass_of_methodNamed B.named
  rw [lg_entry_eq]
  have hl := lv_entry av (n := maxL) hn
  rw [hlv] at hl
  exact body p e s m av.toArray below meth c (va_A w0 s.heap.size) _ _ _ rfl rfl rfl B.exec B.bytes B.returns B.notSynchronized hml hown hts (fun q h => Or.inr h) va_S.rf hK hP hD.self hl
section KR
variable {p : Program} {l : Launch} {e : Env} {R : Room} {s : State} {m : MethodId} {args : Array Value} {below : List Frame} {meth : Method} {c : Code} {H : Heap} {locs : List Loc} {cells slots : Nat} {Q : State → Prop}
variable {cc : ByteArray} {pc : Nat} {ls : Array Slot} {rest st0 : List Value} {D : va_G} {ct : ClassId × ClassId × ClassId} {z : Nat × Nat} {A : Nat → Prop} {w w1 : va_W}
/-- the ends -/
theorem kRetI (hx : p.tables.exec = Jvm.exec) (hb : c.code = cc) (hr : meth.sig.returnType = some .int) (hlk : meth.locks = false) (hP : va_P D vwCl w H) (hD : va_D A w) (hS : va_S A s.heap H locs) {v r : Int32} (hv : v = r) (hw : w = w1) (hQ : Q = MQ below (kQ D w1 A (some (.int r))) args s 0 0 A) (hdg : decode cc pc = .ok (.ireturn, 1)) :
    W p l e R s m args below meth c H locs 0 0 Q (F0 m pc ls [.int v]) := by
  subst hv; subst hw; subst hQ
  exact W.iret hx hb hr (fun t ht hW => ⟨⟨rfl, by rw [ht]; exact hP, hD⟩, hS.F ht⟩) hS.2.2 hdg hlk
theorem kRetZ (hx : p.tables.exec = Jvm.exec) (hb : c.code = cc) (hr : meth.sig.returnType = some .boolean) (hlk : meth.locks = false) (hP : va_P D vwCl w H) (hD : va_D A w) (hS : va_S A s.heap H locs) {v r : Int32} (h01 : v = 0 ∨ v = 1) (hv : v = r) (hw : w = w1) (hQ : Q = MQ below (kQ D w1 A (some (.int r))) args s 0 0 A) (hdg : decode cc pc = .ok (.ireturn, 1)) :
    W p l e R s m args below meth c H locs 0 0 Q (F0 m pc ls [.int v]) := by
  subst hv; subst hw; subst hQ
  exact W.zret hx hb hr (by rcases h01 with rfl | rfl <;> rfl) (fun t ht hW => ⟨⟨rfl, by rw [ht]; exact hP, hD⟩, hS.F ht⟩) hS.2.2 hdg hlk
theorem kRetL (hx : p.tables.exec = Jvm.exec) (hb : c.code = cc) (hr : meth.sig.returnType = some .long) (hlk : meth.locks = false) (hP : va_P D vwCl w H) (hD : va_D A w) (hS : va_S A s.heap H locs) {v r : Int64} (hv : v = r) (hw : w = w1) (hQ : Q = MQ below (kQ D w1 A (some (.long r))) args s 0 0 A) (hdg : decode cc pc = .ok (.lreturn, 1)) :
    W p l e R s m args below meth c H locs 0 0 Q (F0 m pc ls [.long v]) := by
  subst hv; subst hw; subst hQ
  exact W.lret hx hb hr (fun t ht hW => ⟨⟨rfl, by rw [ht]; exact hP, hD⟩, hS.F ht⟩) hS.2.2 hdg hlk
theorem kRetV (hx : p.tables.exec = Jvm.exec) (hb : c.code = cc) (hr : meth.sig.returnType = none) (hlk : meth.locks = false) (hP : va_P D vwCl w H) (hD : va_D A w) (hS : va_S A s.heap H locs) (hw : w = w1) (hQ : Q = MQ below (kQ D w1 A none) args s 0 0 A) (hdg : decode cc pc = .ok (.return_, 1)) :
    W p l e R s m args below meth c H locs 0 0 Q (F0 m pc ls []) := by
  subst hw; subst hQ
  exact W.vret hx hb hr (fun t ht hW => ⟨⟨rfl, by rw [ht]; exact hP, hD⟩, hS.F ht⟩) hS.2.2 hdg hlk
/-- behind a call's run -/
theorem kCall {wc w1 : va_W} {v : Option Value} {a : Array Value} (hr : va_Run p l e R s m args below meth c H locs cells slots 0 0 (F0 m pc ls st0) rest (kQ D w1 (va_A wc H.size) v a) (va_A wc H.size)) (hS : va_S A s.heap H locs) (hf : ∀ q, va_A wc H.size q → A q)
    (kk : ∀ (H1 : Heap) (locs1 : List Loc), va_P D vwCl w1 H1 → va_D (va_A wc H.size) w1 → (∀ q : Nat, q < H.size → ¬ va_A wc H.size q → H1[q]? = H[q]?) → va_S A s.heap H1 locs1 → W p l e R s m args below meth c H1 locs1 cells slots Q (F0 m (pc + 3) ls (v.toList ++ rest))) : W p l e R s m args below meth c H locs cells slots Q (F0 m pc ls st0) := by
  intro T hT X
  obtain ⟨v', st₀, t, T', L, h0, X', hL, e1, e2, ⟨⟨hv, hp1, hd1⟩, hz, hk⟩, st⟩ := hr T hT X
  cases hv
  rw [h0] at hz hk
  obtain ⟨t2, a1, b1⟩ := kk T'.heap (locs ++ L) (by rw [e1]; exact hp1) hd1 (fun q h1 h2 => by rw [e1]; exact hk q h1 h2)
    ⟨Nat.le_trans hS.1 (by rw [e1]; exact hz), fun q h1 h2 => by rw [e1, hk q (Nat.lt_of_lt_of_le h1 hS.1) (fun z => h2 (hf q z))]; exact hS.2.1 q h1 h2, fun q hq => by
      rcases List.mem_append.mp hq with h | h
      · exact hS.2.2 q h
      · exact hf _ (hL q h)⟩ T' rfl X'
  exact ⟨t2, st t2 a1, b1⟩
theorem kK.at {A' : Nat → Prop} {U : State} (h : kK D ct z A s) (hS : va_S A s.heap H locs) (hf : ∀ q, A' q → A q) (hU : U.heap = H) (hW : s.WarmedH U.vm) : kK D ct z A' U := by
  refine ⟨va_K.moved hW.alike h.1, ?_⟩
  rw [hU]
  exact kS.moved hW.alike ((h.2.kept (fun a h1 h2 => hS.2.1 a h1 h2)).narrow hf)
/-- what a callee's words are -/
def kY (y : MethodName) (bytes : ByteArray) (maxL : Nat) (ret : Option FieldType) (ws ws' : List Cond) (n : Nat) : Prop := ws = Cond.code y bytes maxL ret :: ws' ∧ y.cls ≠ "java/lang/invoke/MethodHandle" ∧ y.cls ≠ "java/lang/invoke/VarHandle" ∧ (parseMethodDescriptor y.desc).map (fun d => d.parameters.length) = some n
variable {y : MethodName} {bytes : ByteArray} {maxL nL n index fr lo : Nat} {ret : Option FieldType} {wsy wsy' : List Cond} {Ts : List Cond} {own C : String} {b : Addr} {As : List Value}
/-- a call over a part of the world -/
theorem kV {W0 W1 wc w1 : va_W} {v : Option Value} {ci : Nat} {fs : List Value} {qc : vw_C} (S : CallFix p m c cc nL s args Ts own) (hM : kC l D ct z y wsy fr lo (.ref b :: As) wc v w1) (hG : GoodIn Ts (wsV own index y.cls y wsy)) (hY : kY y bytes maxL ret wsy wsy' n) (hR : fr + 1 ≤ R.frames ∧ 8 + (maxL + 11) + lo ≤ R.locals)
    (hK : kK D ct z A s) (hP : va_P D vwCl W0 H) (hD : va_D A W0) (hS : va_S A s.heap H locs) (hA : ∀ q : Nat, s.heap.size ≤ q → A q) (isC isR pm : List Nat) (q0 : Nat) (hq0 : W0[q0]? = some (b, .inr (ci, fs))) (hci : vwCl[ci]? = some qc) (hqc : qc.1 = y.cls)
    (hC : isC.map (fun i => W0[i]?) = wc.map some) (hR' : isR.map (fun i => W0[i]?) = (isR.filterMap (fun i => W0[i]?)).map some) (hn : va_nd isC = true ∧ va_nd isR = true) (hdis : ∀ i ∈ isR, i ∉ isC) (hpm : pm.map (fun i => (isR.filterMap (fun i => W0[i]?) ++ w1)[i]?) = W1.map some) (hnd : va_nd pm = true)
    (hAs : As.length = n) (hsize : ls.size = nL) (hst : st0 = As.reverse ++ .ref b :: rest) {st1 : List Value} (hst1 : v.toList ++ rest = st1) (hrm : Nat.ble (rest.map fun v => v.category).sum 8 = true) (hcs : cells ≤ R.cells ∧ slots ≤ R.slots) (hdg : decode cc pc = .ok (.invokevirtual index, 3))
    (kk : ∀ (H1 : Heap) (locs1 : List Loc), va_P D vwCl W1 H1 → va_D A W1 → va_S A s.heap H1 locs1 → W p l e R s m args below meth c H1 locs1 cells slots Q (F0 m (pc + 3) ls st1)) : W p l e R s m args below meth c H locs cells slots Q (F0 m pc ls st0) := by
  subst hst1
  have hDc : va_D A wc := hD.sub isC hn.1 hC
  have hFc := va_free (wc := wc) hD hS hA isC hC
  have hPc : va_P D vwCl wc H := by
    intro k q hk
    have h1 : (isC.map (fun i => W0[i]?))[k]? = some (some q) := by rw [hC, List.getElem?_map, hk]; rfl
    rw [List.getElem?_map] at h1
    cases hi : isC[k]? with
    | none => rw [hi] at h1; cases h1
    | some i => rw [hi] at h1; exact hP i q (Option.some.inj h1)
  have hrec := va_recv (s := s) hK.1 hP hci hq0
  rw [hqc] at hrec
  obtain ⟨y1, y2, y3, y4⟩ := hY
  refine kCall (va_runV (As := As) (rest := rest) (C := y.cls) S (hM H.size) (cwV n S.2.2.2.2 hG y1 rfl rfl ⟨rfl, y2, y3, y4⟩ hR) ⟨kBlind D ct z wc H.size _, hrec, fun U hU hW => ⟨rfl, by rw [hU], by rw [hU]; exact hPc, hDc.weaken (fun _ _ _ _ => trivial), kK.at hK hS hFc hU hW⟩⟩ rfl hAs hsize hst (lv_room (Nat.le_of_ble_eq_true hrm)) hdg hcs) hS hFc (fun H1 locs1 hP1 hD1 hk1 hS1 => ?_)
  obtain ⟨hP2, hD2⟩ := va_join (wr := isR.filterMap (fun i => W0[i]?)) hP hD isC isR hC hR' hn.2 hdis hk1 hFc hP1 hD1
  refine kk H1 locs1 ?_ (hD2.sub pm hnd hpm) hS1
  intro k q hk
  have h1 : (pm.map (fun i => (isR.filterMap (fun i => W0[i]?) ++ w1)[i]?))[k]? = some (some q) := by rw [hpm, List.getElem?_map, hk]; rfl
  rw [List.getElem?_map] at h1
  cases hi : pm[k]? with
  | none => rw [hi] at h1; cases h1
  | some i => rw [hi] at h1; exact hP2 i q (Option.some.inj h1)
/-- .. over the whole of it -/
theorem kV1 {W0 w1 : va_W} {v : Option Value} {ci : Nat} {fs : List Value} {qc : vw_C} (S : CallFix p m c cc nL s args Ts own) (hM : kC l D ct z y wsy fr lo (.ref b :: As) W0 v w1) (hG : GoodIn Ts (wsV own index y.cls y wsy)) (hY : kY y bytes maxL ret wsy wsy' n) (hR : fr + 1 ≤ R.frames ∧ 8 + (maxL + 11) + lo ≤ R.locals)
    (hK : kK D ct z A s) (hP : va_P D vwCl W0 H) (hD : va_D A W0) (hS : va_S A s.heap H locs) (hA : ∀ q : Nat, s.heap.size ≤ q → A q) (q0 : Nat) (hq0 : W0[q0]? = some (b, .inr (ci, fs))) (hci : vwCl[ci]? = some qc) (hqc : qc.1 = y.cls)
    (hAs : As.length = n) (hsize : ls.size = nL) (hst : st0 = As.reverse ++ .ref b :: rest) {st1 : List Value} (hst1 : v.toList ++ rest = st1) (hrm : Nat.ble (rest.map fun v => v.category).sum 8 = true) (hcs : cells ≤ R.cells ∧ slots ≤ R.slots) (hdg : decode cc pc = .ok (.invokevirtual index, 3))
    (kk : ∀ (H1 : Heap) (locs1 : List Loc), va_P D vwCl w1 H1 → va_D A w1 → va_S A s.heap H1 locs1 → W p l e R s m args below meth c H1 locs1 cells slots Q (F0 m (pc + 3) ls st1)) : W p l e R s m args below meth c H locs cells slots Q (F0 m pc ls st0) := by
  subst hst1
  have hFc : ∀ q, va_A W0 H.size q → A q := by
    rintro q (⟨k, e, h⟩ | h)
    · exact hD.2 k (q, e) h
    · exact hA q (Nat.le_trans hS.1 h)
  have hrec := va_recv (s := s) hK.1 hP hci hq0
  rw [hqc] at hrec
  obtain ⟨y1, y2, y3, y4⟩ := hY
  exact kCall (va_runV (As := As) (rest := rest) (C := y.cls) S (hM H.size) (cwV n S.2.2.2.2 hG y1 rfl rfl ⟨rfl, y2, y3, y4⟩ hR) ⟨kBlind D ct z W0 H.size _, hrec, fun U hU hW => ⟨rfl, by rw [hU], by rw [hU]; exact hP, hD.weaken (fun _ _ _ _ => trivial), kK.at hK hS hFc hU hW⟩⟩ rfl hAs hsize hst (lv_room (Nat.le_of_ble_eq_true hrm)) hdg hcs) hS hFc (fun H1 locs1 hP1 hD1 _ hS1 => kk H1 locs1 hP1 (hD1.weaken (fun _ q _ h => hFc q.1 h)) hS1)
/-- a static call without a world -/
theorem kS0 {W0 : va_W} {v : Option Value} (S : CallFix p m c cc nL s args Ts own) (hM : kC l D ct z y wsy fr lo As [] v []) (hG : GoodIn Ts (va_wsS own index y wsy)) (hY : kY y bytes maxL ret wsy wsy' n) (hR : fr + 1 ≤ R.frames ∧ 8 + (maxL + 11) + lo ≤ R.locals)
    (hK : kK D ct z A s) (hP : va_P D vwCl W0 H) (hD : va_D A W0) (hS : va_S A s.heap H locs) (hA : ∀ q : Nat, s.heap.size ≤ q → A q)
    (hAs : As.length = n) (hsize : ls.size = nL) (hst : st0 = As.reverse ++ rest) {st1 : List Value} (hst1 : v.toList ++ rest = st1) (hrm : Nat.ble (rest.map fun v => v.category).sum 8 = true) (hcs : cells ≤ R.cells ∧ slots ≤ R.slots) (hdg : decode cc pc = .ok (.invokestatic index, 3))
    (kk : ∀ (H1 : Heap) (locs1 : List Loc), va_P D vwCl W0 H1 → va_D A W0 → va_S A s.heap H1 locs1 → W p l e R s m args below meth c H1 locs1 cells slots Q (F0 m (pc + 3) ls st1)) : W p l e R s m args below meth c H locs cells slots Q (F0 m pc ls st0) := by
  subst hst1
  have hFc : ∀ q, va_A [] H.size q → A q := by
    rintro q (⟨k, e, h⟩ | h)
    · cases h
    · exact hA q (Nat.le_trans hS.1 h)
  obtain ⟨y1, y2, y3, y4⟩ := hY
  refine kCall (va_runS (As := As) (rest := rest) S (hM H.size) (va_cwS n S.2.2.2.2 hG y1 rfl rfl ⟨y2, y3, y4⟩ hR) ⟨kBlind D ct z [] H.size _, fun U hU hW => ⟨rfl, by rw [hU], (fun k q h => by cases h), ⟨(fun i j p q h => by cases h), (fun k q h => by cases h)⟩, kK.at hK hS hFc hU hW⟩⟩ rfl hAs hsize hst (lv_room (Nat.le_of_ble_eq_true hrm)) hdg hcs) hS hFc (fun H1 locs1 _ _ hk1 hS1 => kk H1 locs1 (hP.kept fun k q hk => hk1 q.1 (hP k q hk).lt ?_) hD hS1)
  rintro (⟨k2, e, h⟩ | h)
  · cases h
  · exact absurd (hP k q hk).lt (Nat.not_lt.mpr h)
/-- a static call over a part of the world -/
theorem kSw {W0 W1 wc w1 : va_W} {v : Option Value} (S : CallFix p m c cc nL s args Ts own) (hM : kC l D ct z y wsy fr lo As wc v w1) (hG : GoodIn Ts (va_wsS own index y wsy)) (hY : kY y bytes maxL ret wsy wsy' n) (hR : fr + 1 ≤ R.frames ∧ 8 + (maxL + 11) + lo ≤ R.locals)
    (hK : kK D ct z A s) (hP : va_P D vwCl W0 H) (hD : va_D A W0) (hS : va_S A s.heap H locs) (hA : ∀ q : Nat, s.heap.size ≤ q → A q) (isC isR pm : List Nat)
    (hC : isC.map (fun i => W0[i]?) = wc.map some) (hR' : isR.map (fun i => W0[i]?) = (isR.filterMap (fun i => W0[i]?)).map some) (hn : va_nd isC = true ∧ va_nd isR = true) (hdis : ∀ i ∈ isR, i ∉ isC) (hpm : pm.map (fun i => (isR.filterMap (fun i => W0[i]?) ++ w1)[i]?) = W1.map some) (hnd : va_nd pm = true)
    (hAs : As.length = n) (hsize : ls.size = nL) (hst : st0 = As.reverse ++ rest) {st1 : List Value} (hst1 : v.toList ++ rest = st1) (hrm : Nat.ble (rest.map fun v => v.category).sum 8 = true) (hcs : cells ≤ R.cells ∧ slots ≤ R.slots) (hdg : decode cc pc = .ok (.invokestatic index, 3))
    (kk : ∀ (H1 : Heap) (locs1 : List Loc), va_P D vwCl W1 H1 → va_D A W1 → va_S A s.heap H1 locs1 → W p l e R s m args below meth c H1 locs1 cells slots Q (F0 m (pc + 3) ls st1)) : W p l e R s m args below meth c H locs cells slots Q (F0 m pc ls st0) := by
  subst hst1
  have hDc : va_D A wc := hD.sub isC hn.1 hC
  have hFc := va_free (wc := wc) hD hS hA isC hC
  have hPc : va_P D vwCl wc H := by
    intro k q hk
    have h1 : (isC.map (fun i => W0[i]?))[k]? = some (some q) := by rw [hC, List.getElem?_map, hk]; rfl
    rw [List.getElem?_map] at h1
    cases hi : isC[k]? with
    | none => rw [hi] at h1; cases h1
    | some i => rw [hi] at h1; exact hP i q (Option.some.inj h1)
  obtain ⟨y1, y2, y3, y4⟩ := hY
  refine kCall (va_runS (As := As) (rest := rest) S (hM H.size) (va_cwS n S.2.2.2.2 hG y1 rfl rfl ⟨y2, y3, y4⟩ hR) ⟨kBlind D ct z wc H.size _, fun U hU hW => ⟨rfl, by rw [hU], by rw [hU]; exact hPc, hDc.weaken (fun _ _ _ _ => trivial), kK.at hK hS hFc hU hW⟩⟩ rfl hAs hsize hst (lv_room (Nat.le_of_ble_eq_true hrm)) hdg hcs) hS hFc (fun H1 locs1 hP1 hD1 hk1 hS1 => ?_)
  obtain ⟨hP2, hD2⟩ := va_join (wr := isR.filterMap (fun i => W0[i]?)) hP hD isC isR hC hR' hn.2 hdis hk1 hFc hP1 hD1
  refine kk H1 locs1 ?_ (hD2.sub pm hnd hpm) hS1
  intro k q hk
  have h1 : (pm.map (fun i => (isR.filterMap (fun i => W0[i]?) ++ w1)[i]?))[k]? = some (some q) := by rw [hpm, List.getElem?_map, hk]; rfl
  rw [List.getElem?_map] at h1
  cases hi : pm[k]? with
  | none => rw [hi] at h1; cases h1
  | some i => rw [hi] at h1; exact hP2 i q (Option.some.inj h1)
/-- putfield, array stores: the world behind it by its name -/
theorem kPut {W0 W1 : va_W} {a : Nat} {ci : Nat} {fs : List Value} {ref : String} {T : u_T} {N : Nat} (hx : p.tables.exec = Jvm.exec) (hb : c.code = cc) (hts : ∀ w ∈ Ts, w.before args s = true) (hin : ∀ w ∈ u_ws C T N, w ∈ Ts) (ty0 : Nat → FieldType) (hty : ∀ k, k < N → parseFieldDescriptor (T k).2.2.1 = some (ty0 k)) (hnm : ∀ a, a < N → ∀ b, b < N → a ≠ b → (T a).2.1 ≠ (T b).2.1) (hown : s.vm.findClass own = some m.cls) (hK : kK D ct z A s) (hP : va_P D vwCl W0 H) (hD : va_D A W0) (hS : va_S A s.heap H locs) (q0 : Nat) (he : W0[q0]? = some (a, .inr (ci, fs))) (hc : vwCl[ci]? = some (C, T, N)) (k : Nat) (hk : k < N)
    (hlink : (Cond.fieldLink own index ref (T k).2.1 (T k).2.2.1).before args s = true) (hsame : ∀ x, s.fieldFound? (T k).1 (T k).2.1 (T k).2.2.1 = some x → s.fieldFound? ref (T k).2.1 (T k).2.2.1 = some x) (hfin : (T k).2.2.2 = false) {ty : FieldType} {v : Value} (hd : parseFieldDescriptor (T k).2.2.1 = some ty) (hn : narrow ty v = v) (hfit : fits ty v = true) (hl : k < fs.length) (hW : W0.set q0 (a, .inr (ci, fs.set k v)) = W1) (hdg : decode cc pc = .ok (.putfield index, 3))
    (kk : ∀ (H1 : Heap) (locs1 : List Loc), va_P D vwCl W1 H1 → va_D A W1 → va_S A s.heap H1 locs1 → W p l e R s m args below meth c H1 locs1 cells slots Q (F0 m (pc + 3) ls rest)) : W p l e R s m args below meth c H locs cells slots Q (F0 m pc ls (v :: .ref a :: rest)) := by
  subst hW
  exact va_put hx hb hts hin ty0 hty hnm hown hK.1 hP hD hS q0 he hc k hk hlink hsame hfin hd hn hfit hl hdg kk
theorem kIast {W0 W1 : va_W} {a : Nat} (hx : p.tables.exec = Jvm.exec) (hb : c.code = cc) (hK : kK D ct z A s) (hP : va_P D vwCl W0 H) (hD : va_D A W0) (hS : va_S A s.heap H locs) (q0 : Nat) {n : Nat} {f : Nat → Int32} (ha : W0[q0]? = some (a, .inl (ct.1, n, .inl f))) {i x : Int32} (hin : vp_in i n) (hW : W0.set q0 (a, .inl (ct.1, n, .inl (upd f i.toNatClampNeg x))) = W1) (hdg : decode cc pc = .ok (.iastore, 1))
    (kk : ∀ (H1 : Heap) (locs1 : List Loc), va_P D vwCl W1 H1 → va_D A W1 → va_S A s.heap H1 locs1 → W p l e R s m args below meth c H1 locs1 cells slots Q (F0 m (pc + 1) ls rest)) : W p l e R s m args below meth c H locs cells slots Q (F0 m pc ls (.int x :: .int i :: .ref a :: rest)) := by
  subst hW
  exact va_iast hx hb hK.1 hP hD hS q0 0 ha rfl hin hdg kk
theorem kZast {W0 W1 : va_W} {a : Nat} (hx : p.tables.exec = Jvm.exec) (hb : c.code = cc) (hK : kK D ct z A s) (hP : va_P D vwCl W0 H) (hD : va_D A W0) (hS : va_S A s.heap H locs) (q0 : Nat) {n : Nat} {f : Nat → Int32} (ha : W0[q0]? = some (a, .inl (ct.2.1, n, .inl f))) {i x : Int32} (h01 : x = 0 ∨ x = 1) (hin : vp_in i n) (hW : W0.set q0 (a, .inl (ct.2.1, n, .inl (upd f i.toNatClampNeg x))) = W1) (hdg : decode cc pc = .ok (.bastore, 1))
    (kk : ∀ (H1 : Heap) (locs1 : List Loc), va_P D vwCl W1 H1 → va_D A W1 → va_S A s.heap H1 locs1 → W p l e R s m args below meth c H1 locs1 cells slots Q (F0 m (pc + 1) ls rest)) : W p l e R s m args below meth c H locs cells slots Q (F0 m pc ls (.int x :: .int i :: .ref a :: rest)) := by
  subst hW
  have hz : vp_nar .boolean x = x := by rcases h01 with rfl | rfl <;> rfl
  refine va_zast hx hb hK.1 hP hD hS q0 1 ha rfl hin hdg ?_
  rw [hz]
  exact kk
theorem kAld {W0 : va_W} {a : Nat} (hx : p.tables.exec = Jvm.exec) (hb : c.code = cc) (hK : kK D ct z A s) (hP : va_P D vwCl W0 H) (q0 : Nat) {n : Nat} {f : Nat → Option Nat} (ha : W0[q0]? = some (a, .inl (ct.2.2, n, .inr (.inr (.inr (.inr f)))))) {i : Int32} (hin : vp_in i n) {v : Value} (hv : va_rf (f i.toNatClampNeg) = v) (hdg : decode cc pc = .ok (.aaload, 1))
    (kk : W p l e R s m args below meth c H locs cells slots Q (F0 m (pc + 1) ls (v :: rest))) : W p l e R s m args below meth c H locs cells slots Q (F0 m pc ls (.int i :: .ref a :: rest)) := by
  subst hv
  exact va_aldq hx hb hK.1 hP q0 2 ha rfl hin hdg kk
theorem kMax (hx : p.tables.exec = Jvm.exec) (hb : c.code = cc) (hml : c.maxLocals = ls.size) (hown : s.vm.findClass own = some m.cls) (hlink : (Cond.methodLink own index Lib.Math.max.name).before args s = true) (hstat : (Cond.static Lib.Math.max.name).before args s = true) (hini : (Cond.initialized "java/lang/Math").before args s = true) (hcode : (Cond.code Lib.Math.max.name Lib.Math.max.code 2 (some .int)).before args s = true)
    (hframes : 1 ≤ R.frames) (hlocals : (rest.map fun v => v.category).sum + 13 ≤ R.locals) (hc : cells ≤ R.cells) (hs : slots ≤ R.slots) {x y : Int32} (hdg : decode cc pc = .ok (.invokestatic index, 3))
    (kk : W p l e R s m args below meth c H locs cells slots Q (F0 m (pc + 3) ls (.int (jmax x y) :: rest))) : W p l e R s m args below meth c H locs cells slots Q (F0 m pc ls (.int y :: .int x :: rest)) := va_mmax hx hb hml hown hlink hstat hini hcode hframes hlocals hc hs hdg kk
theorem kMin (hx : p.tables.exec = Jvm.exec) (hb : c.code = cc) (hml : c.maxLocals = ls.size) (hown : s.vm.findClass own = some m.cls) (hlink : (Cond.methodLink own index Lib.Math.min.name).before args s = true) (hstat : (Cond.static Lib.Math.min.name).before args s = true) (hini : (Cond.initialized "java/lang/Math").before args s = true) (hcode : (Cond.code Lib.Math.min.name Lib.Math.min.code 2 (some .int)).before args s = true)
    (hframes : 1 ≤ R.frames) (hlocals : (rest.map fun v => v.category).sum + 13 ≤ R.locals) (hc : cells ≤ R.cells) (hs : slots ≤ R.slots) {x y : Int32} (hdg : decode cc pc = .ok (.invokestatic index, 3))
    (kk : W p l e R s m args below meth c H locs cells slots Q (F0 m (pc + 3) ls (.int (jmin x y) :: rest))) : W p l e R s m args below meth c H locs cells slots Q (F0 m pc ls (.int y :: .int x :: rest)) := va_mmin hx hb hml hown hlink hstat hini hcode hframes hlocals hc hs hdg kk
end KR
