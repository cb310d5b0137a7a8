/-! constructors: a contract where addresses come out; new objects, new rows, final fields -/
/-- the private constructors of the nest, called by its mates -/
def kNw (U : State) : Prop := va_Nw (.methodLinkNest RX6 9 yX4_init RX6) U ∧ va_Nw (.methodLinkNest RX6 18 yX2_init RX6) U ∧ va_Nw (.methodLinkNest RX6 25 yX5_init RX6) U ∧ va_Nw (.methodLinkNest RX5 11 yX4_init RX6) U ∧ va_Nw (.methodLinkNest RX6 32 yX3_init RX6) U ∧ va_Nw (.methodLinkNest RX6 39 yX1_init RX6) U
theorem kNw.same {u U : State} (h : u.vm = U.vm) (k : kNw u) : kNw U := ⟨va_Nw.same rfl h k.1, va_Nw.same rfl h k.2.1, va_Nw.same rfl h k.2.2.1, va_Nw.same rfl h k.2.2.2.1, va_Nw.same rfl h k.2.2.2.2.1, va_Nw.same rfl h k.2.2.2.2.2⟩
theorem kNw.warm {s U : State} (hW : s.WarmedH U.vm) (k : kNw s) : kNw U := ⟨va_Nw.warmM hW k.1, va_Nw.warmM hW k.2.1, va_Nw.warmM hW k.2.2.1, va_Nw.warmM hW k.2.2.2.1, va_Nw.warmM hW k.2.2.2.2.1, va_Nw.warmM hW k.2.2.2.2.2⟩
def kOW (U : State) : Prop := va_AO "MastPulpits$Sea" U ∧ kNw U
def kPreN (D : va_G) (ct : ClassId × ClassId × ClassId) (z : Nat × Nat) (w0 : va_W) (sz : Nat) (U : State) : Prop := kPre D ct z w0 sz U ∧ kOW U
def kQN {S : Type} (D : va_G) (w1 : S → va_W) (A : Nat → Prop) : Array Value → State → Outcome → State → Prop := fun _ st oc t => (∃ u : S, oc = .returned none ∧ va_P D vwCl (w1 u) t.heap ∧ va_D A (w1 u)) ∧ va_F A st t
def kN {S : Type} (l : Launch) (D : va_G) (ct : ClassId × ClassId × ClassId) (z : Nat × Nat) (y : MethodName) (ws : List Cond) (fr mc ms lo : Nat) (b : Nat) (w0 : va_W) (w1 : S → va_W) : Prop :=
  ∀ sz : Nat, Met l y ws { frames := fr, cells := mc, slots := ms, locals := lo } (va_Pc [.ref b] (kPreN D ct z w0 sz)) (kQN D w1 (va_A w0 sz)) mc ms (va_A w0 sz)
theorem kBlindN (D : va_G) (ct : ClassId × ClassId × ClassId) (z : Nat × Nat) (w0 : va_W) (sz : Nat) (av : List Value) : FrameBlind (va_Pc av (kPreN D ct z w0 sz)) := by
  intro a U g mk h
  obtain ⟨h1, ⟨h2, h3, h4, h5, h6⟩, h7⟩ := h
  exact ⟨h1, ⟨h2, h3, h4, va_K.moved (u := U) (U := U.calling g mk a) (Vm.Alike.refl U.vm) h5, kS.moved (u := U) (U := U.calling g mk a) (Vm.Alike.refl U.vm) h6⟩, ⟨va_AO.moved (u := U) (U := U.calling g mk a) (Vm.Alike.refl U.vm) h7.1, kNw.same (u := U) (U := U.calling g mk a) rfl h7.2⟩⟩
theorem kHeadN {S : Type} {l : Launch} {D : va_G} {ct : ClassId × ClassId × ClassId} {z : Nat × Nat} {y : MethodName} {ws ws' : List Cond} {fr mc ms lo b : Nat} {w0 : va_W} {w1 : S → va_W} {cc : ByteArray} {maxL : Nat} (lv : List (Nat × Value))
    (hy : plainName y.cls = true) (hw : ws = Cond.code y cc maxL none :: ws') (hn : (lg_sl [.ref b]).length ≤ maxL) (hlv : lv_args 0 [.ref b] = lv)
    (body : ∀ (p : Program) (e : Env) (s : State) (m : MethodId) (args : Array Value) (below : List Frame) (meth : Method) (c : Code) (A : Nat → Prop) (ls : Array Slot) (R : Room) (Q : State → Prop), R.frames = fr → R.locals = lo → R.cells = mc → R.slots = ms → Q = MQ below (kQN D w1 A) args s mc ms A → p.tables.exec = Jvm.exec → c.code = cc → meth.sig.returnType = none → meth.locks = false → c.maxLocals = maxL → s.vm.findClass y.cls = some m.cls → meth.name = y.name → (∀ w ∈ ws, w.before args s = true) →
      (∀ q : Nat, s.heap.size ≤ q → A q) → va_S A s.heap s.heap [] → kK D ct z A s → kOW s → va_P D vwCl w0 s.heap → va_D A w0 → lv_has ls maxL lv →
      W p l e R s m args below meth c s.heap [] 0 0 Q (F0 m 0 ls [])) : kN l D ct z y ws fr mc ms lo b w0 w1 := by
  intro sz
  refine Met.ofW (cc := cc) (maxL := maxL) (ret := none) hy hw ?_
  intro p e s m args below meth c s₁ B hml hP
  obtain ⟨rfl, ⟨rfl, hP, hD, hK⟩, hO⟩ := hP
  have hts := atoms_spec (ws := ws) B.pre
  have hown : s.vm.findClass y.cls = some m.cls := findClass_of_methodNamed B.named
  have hin := (name_of_methodNamed B.named B.method).1
  rw [lg_entry_eq]
  have hl := lv_entry [.ref b] (n := maxL) hn
  rw [hlv] at hl
  exact body p e s m [Value.ref b].toArray below meth c (va_A w0 s.heap.size) _ _ _ rfl rfl rfl rfl rfl B.exec B.bytes B.returns B.notSynchronized hml hown hin hts (fun q h => Or.inr h) va_S.rf hK hO hP hD.self hl
section KN
variable {p : Program} {l : Launch} {e : Env} {R : Room} {s : State} {m : MethodId} {args : Array Value} {below : List Frame} {meth : Method} {c : Code} {H : Heap} {locs : List Loc} {cells slots : Nat} {Q : State → Prop}
variable {cc : ByteArray} {pc : Nat} {ls : Array Slot} {rest st0 : List Value} {D : va_G} {ct : ClassId × ClassId × ClassId} {z : Nat × Nat} {A : Nat → Prop}
theorem kRetN {S : Type} {w : va_W} {w1 : S → va_W} {mc ms : Nat} (u : S) (hx : p.tables.exec = Jvm.exec) (hb : c.code = cc) (hr : meth.sig.returnType = none) (hlk : meth.locks = false) (hP : va_P D vwCl w H) (hD : va_D A w) (hS : va_S A s.heap H locs) (pm : List Nat) (hpm : pm.map (fun i => w[i]?) = (w1 u).map some) (hnd : va_nd pm = true) (hQ : Q = MQ below (kQN D w1 A) args s mc ms A) (hc : cells = mc) (hs : slots = ms) (hdg : decode cc pc = .ok (.return_, 1)) :
    W p l e R s m args below meth c H locs cells slots Q (F0 m pc ls []) := by
  subst hQ; subst hc; subst hs
  have hP1 : va_P D vwCl (w1 u) H := by
    intro k q hk
    have h1 : (pm.map (fun i => w[i]?))[k]? = some (some q) := by rw [hpm, List.getElem?_map, hk]; rfl
    rw [List.getElem?_map] at h1
    cases hi : pm[k]? with
    | none => rw [hi] at h1; cases h1
    | some i => rw [hi] at h1; exact hP i q (Option.some.inj h1)
  exact W.vret hx hb hr (fun t ht hW => ⟨⟨u, rfl, by rw [ht]; exact hP1, hD.sub pm hnd hpm⟩, hS.F ht⟩) hS.2.2 hdg hlk
variable {y : MethodName} {bytes : ByteArray} {maxL nL index : Nat} {wsy wsy' : List Cond} {Ts : List Cond} {own C : String}
theorem kPutF {W0 W1 : va_W} {a : Nat} {ci : Nat} {fs : List Value} {ref : String} {T : u_T} {N : Nat} (hx : p.tables.exec = Jvm.exec) (hb : c.code = cc) (hts : ∀ w ∈ Ts, w.before args s = true) (hin : ∀ w ∈ u_ws C T N, w ∈ Ts) (ty0 : Nat → FieldType) (hty : ∀ k, k < N → parseFieldDescriptor (T k).2.2.1 = some (ty0 k)) (hnm : ∀ a, a < N → ∀ b, b < N → a ≠ b → (T a).2.1 ≠ (T b).2.1) (hown : s.vm.findClass own = some m.cls) (hK : kK D ct z A s) (hP : va_P D vwCl W0 H) (hD : va_D A W0) (hS : va_S A s.heap H locs) (q0 : Nat) (he : W0[q0]? = some (a, .inr (ci, fs))) (hc : vwCl[ci]? = some (C, T, N)) (k : Nat) (hk : k < N)
    (hlink : (Cond.fieldLink own index ref (T k).2.1 (T k).2.2.1).before args s = true) (hsame : ∀ x, s.fieldFound? (T k).1 (T k).2.1 (T k).2.2.1 = some x → s.fieldFound? ref (T k).2.1 (T k).2.2.1 = some x) (hfin : (T k).2.2.2 = true) (hin2 : meth.name = "<init>") (hdecl : (T k).1 = own) {ty : FieldType} {v : Value} (hd : parseFieldDescriptor (T k).2.2.1 = some ty) (hn : narrow ty v = v) (hfit : fits ty v = true) (hl : k < fs.length) (hW : W0.set q0 (a, .inr (ci, fs.set k v)) = W1) (hdg : decode cc pc = .ok (.putfield index, 3))
    (kk : ∀ (H1 : Heap) (locs1 : List Loc), va_P D vwCl W1 H1 → va_D A W1 → va_S A s.heap H1 locs1 → W p l e R s m args below meth c H1 locs1 cells slots Q (F0 m (pc + 3) ls rest)) : W p l e R s m args below meth c H locs cells slots Q (F0 m pc ls (v :: .ref a :: rest)) := by
  subst hW
  exact va_putF hx hb hts hin ty0 hty hnm hown hK.1 hP hD hS q0 he hc k hk hlink hsame hfin hin2 hdecl hd hn hfit hl hdg kk
theorem kNewI {W0 : va_W} (hx : p.tables.exec = Jvm.exec) (hb : c.code = cc) (harr : (Cond.arrayClass .int).before args s = true) (hK : kK D ct z A s) (hP : va_P D vwCl W0 H) (hD : va_D A W0) (hS : va_S A s.heap H locs) (hA : ∀ q, s.heap.size ≤ q → A q) {n : Int32} (N' : Nat) {W1 : Nat → va_W} {k2 s2 : Nat} (hW : ∀ q, W0 ++ [(q, .inl (ct.1, N', .inl (fun _ => 0)))] = W1 q) (hn : ¬ n < 0) (hN : n.toNatClampNeg = N') (hbytes : N' * componentBytes .int ≤ 536870912) (hc2 : cells + 1 = k2) (hs2 : slots + N' = s2) (hcells : k2 ≤ R.cells) (hslots : s2 ≤ R.slots) (hdg : decode cc pc = .ok (.newarray .int, 2))
    (kk : ∀ (q : Nat) (H1 : Heap), va_P D vwCl (W1 q) H1 → va_D A (W1 q) → va_S A s.heap H1 locs → W p l e R s m args below meth c H1 locs k2 s2 Q (F0 m (pc + 2) ls (.ref q :: rest))) : W p l e R s m args below meth c H locs cells slots Q (F0 m pc ls (.int n :: rest)) := by
  subst hc2; subst hs2
  refine va_newa (atype := .int) (ty := .int) (a0 := (N', .inl (fun _ => 0))) hx hb harr rfl hK.1 hP hD hS hA (fun cA => rfl) hn hN hbytes hcells hslots hdg (fun q cA H1 hK1 hP1 hD1 hS1 => ?_)
  have e1 : s.vm.findClass ("[" ++ FieldType.int.toString) = some cA := (hK1.2 3 (cA, .int) rfl).2
  have e2 : s.vm.findClass ("[" ++ FieldType.int.toString) = some ct.1 := (hK.1.2 0 (ct.1, .int) rfl).2
  have e : cA = ct.1 := Option.some.inj (e1.symm.trans e2)
  subst e
  rw [hW] at hP1 hD1
  exact kk q H1 hP1 hD1 hS1
theorem kNewZ {W0 : va_W} (hx : p.tables.exec = Jvm.exec) (hb : c.code = cc) (harr : (Cond.arrayClass .boolean).before args s = true) (hK : kK D ct z A s) (hP : va_P D vwCl W0 H) (hD : va_D A W0) (hS : va_S A s.heap H locs) (hA : ∀ q, s.heap.size ≤ q → A q) {n : Int32} (N' : Nat) {W1 : Nat → va_W} {k2 s2 : Nat} (hW : ∀ q, W0 ++ [(q, .inl (ct.2.1, N', .inl (fun _ => 0)))] = W1 q) (hn : ¬ n < 0) (hN : n.toNatClampNeg = N') (hbytes : N' * componentBytes .boolean ≤ 536870912) (hc2 : cells + 1 = k2) (hs2 : slots + N' = s2) (hcells : k2 ≤ R.cells) (hslots : s2 ≤ R.slots) (hdg : decode cc pc = .ok (.newarray .boolean, 2))
    (kk : ∀ (q : Nat) (H1 : Heap), va_P D vwCl (W1 q) H1 → va_D A (W1 q) → va_S A s.heap H1 locs → W p l e R s m args below meth c H1 locs k2 s2 Q (F0 m (pc + 2) ls (.ref q :: rest))) : W p l e R s m args below meth c H locs cells slots Q (F0 m pc ls (.int n :: rest)) := by
  subst hc2; subst hs2
  refine va_newa (atype := .boolean) (ty := .boolean) (a0 := (N', .inl (fun _ => 0))) hx hb harr rfl hK.1 hP hD hS hA (fun cA => rfl) hn hN hbytes hcells hslots hdg (fun q cA H1 hK1 hP1 hD1 hS1 => ?_)
  have e1 : s.vm.findClass ("[" ++ FieldType.boolean.toString) = some cA := (hK1.2 3 (cA, .boolean) rfl).2
  have e2 : s.vm.findClass ("[" ++ FieldType.boolean.toString) = some ct.2.1 := (hK.1.2 1 (ct.2.1, .boolean) rfl).2
  have e : cA = ct.2.1 := Option.some.inj (e1.symm.trans e2)
  subst e
  rw [hW] at hP1 hD1
  exact kk q H1 hP1 hD1 hS1
theorem kNewQ {W0 : va_W} (hx : p.tables.exec = Jvm.exec) (hb : c.code = cc) (hown : s.vm.findClass own = some m.cls) (hclink : (Cond.classLink own index "MastPulpits$Sea").before args s = true) (hO : kOW s) (hK : kK D ct z A s) (hP : va_P D vwCl W0 H) (hD : va_D A W0) (hS : va_S A s.heap H locs) (hA : ∀ q, s.heap.size ≤ q → A q) {n : Int32} (N' : Nat) {W1 : Nat → va_W} {k2 s2 : Nat} (hW : ∀ q, W0 ++ [(q, .inl (ct.2.2, N', .inr (.inr (.inr (.inr (fun _ => none))))))] = W1 q) (hn : ¬ n < 0) (hN : n.toNatClampNeg = N') (hbytes : N' * 4 ≤ 536870912) (hc2 : cells + 1 = k2) (hs2 : slots + N' = s2) (hcells : k2 ≤ R.cells) (hslots : s2 ≤ R.slots) (hdg : decode cc pc = .ok (.anewarray index, 3))
    (kk : ∀ (q : Nat) (H1 : Heap), va_P D vwCl (W1 q) H1 → va_D A (W1 q) → va_S A s.heap H1 locs → W p l e R s m args below meth c H1 locs k2 s2 Q (F0 m (pc + 3) ls (.ref q :: rest))) : W p l e R s m args below meth c H locs cells slots Q (F0 m pc ls (.int n :: rest)) := by
  subst hc2; subst hs2
  refine va_newq hx hb hown hclink hO.1 hK.1 hP hD hS hA hn hN hbytes hcells hslots hdg (fun q cA H1 hK1 hP1 hD1 hS1 => ?_)
  obtain ⟨kA, comp, -, -, -, e1⟩ := (hK1.2 3 (cA, .object "MastPulpits$Sea") rfl).2
  obtain ⟨kB, comp2, -, -, -, e2⟩ := (hK.1.2 2 (ct.2.2, .object "MastPulpits$Sea") rfl).2
  have e : cA = ct.2.2 := Option.some.inj (e1.symm.trans e2)
  subst e
  rw [hW] at hP1 hD1
  exact kk q H1 hP1 hD1 hS1
theorem kNewO {W0 : va_W} {T : u_T} {N ci : Nat} (hx : p.tables.exec = Jvm.exec) (hb : c.code = cc) (hts : ∀ w ∈ Ts, w.before args s = true) (hin : ∀ w ∈ u_ws C T N, w ∈ Ts) (ty : Nat → FieldType) (hty : ∀ k, k < N → parseFieldDescriptor (T k).2.2.1 = some (ty k)) (hown : s.vm.findClass own = some m.cls) (hcl : (Cond.classLink own index C).before args s = true) (hinst : (Cond.instantiable C N).before args s = true) (hini : (Cond.initialized C).before args s = true)
    (hK : kK D ct z A s) (hP : va_P D vwCl W0 H) (hD : va_D A W0) (hS : va_S A s.heap H locs) (hA : ∀ q, s.heap.size ≤ q → A q) (hc : vwCl[ci]? = some (C, T, N)) {fs : List Value} (hfs : ∀ j, j < N → defaultValue (ty j) = vp_V fs j) {W1 : Nat → va_W} {k2 s2 : Nat} (hW : ∀ q, W0 ++ [(q, .inr (ci, fs))] = W1 q) (hc2 : cells + 1 = k2) (hs2 : slots + N = s2) (hcells : k2 ≤ R.cells) (hslots : s2 ≤ R.slots) (hdg : decode cc pc = .ok (.new index, 3))
    (kk : ∀ (q : Nat) (H1 : Heap), va_P D vwCl (W1 q) H1 → va_D A (W1 q) → va_S A s.heap H1 locs → W p l e R s m args below meth c H1 locs k2 s2 Q (F0 m (pc + 3) ls (.ref q :: rest))) : W p l e R s m args below meth c H locs cells slots Q (F0 m pc ls rest) := by
  subst hc2; subst hs2
  refine va_new hx hb hts hin ty hty hown hcl hinst hini hK.1 hP hD hS hA hc hfs hcells hslots hdg (fun q H1 hP1 hD1 hS1 => ?_)
  rw [hW] at hP1 hD1
  exact kk q H1 hP1 hD1 hS1
/-- a constructor's call: its own cells, and what it makes -/
theorem kI {S : Type} {W0 wc : va_W} {w1 : S → va_W} {b fr mc ms lo k2 s2 : Nat} {W1 : S → va_W} (Sx : CallFix p m c cc nL s args Ts own) (hM : kN l D ct z y wsy fr mc ms lo b wc w1) (hG : GoodIn Ts wsy) (hY : kY y bytes maxL none wsy wsy' 0) (hname : y.name = "<init>") (hini : (Cond.initialized y.cls).before args s = true) (hlink : (Cond.methodLink own index y).before args s = true) (hinm : (Cond.instanceMethod y).before args s = true) (hR : fr + 1 ≤ R.frames ∧ 8 + (maxL + 11) + lo ≤ R.locals)
    (hK : kK D ct z A s) (hO : kOW s) (hP : va_P D vwCl W0 H) (hD : va_D A W0) (hS : va_S A s.heap H locs) (hA : ∀ q : Nat, s.heap.size ≤ q → A q) (isC isR : List Nat)
    (hC : isC.map (fun i => W0[i]?) = wc.map some) (hR' : isR.map (fun i => W0[i]?) = (isR.filterMap (fun i => W0[i]?)).map some) (hn : va_nd isC = true ∧ va_nd isR = true) (hdis : ∀ i ∈ isR, i ∉ isC) (hW : ∀ u, isR.filterMap (fun i => W0[i]?) ++ w1 u = W1 u)
    (hsize : ls.size = nL) (hst : st0 = .ref b :: rest) (hrm : Nat.ble (rest.map fun v => v.category).sum 8 = true) (hc2 : cells + mc = k2) (hs2 : slots + ms = s2) (hcells : k2 ≤ R.cells) (hslots : s2 ≤ R.slots) (hdg : decode cc pc = .ok (.invokespecial index, 3))
    (kk : ∀ (u : S) (H1 : Heap) (locs1 : List Loc), va_P D vwCl (W1 u) H1 → va_D A (W1 u) → va_S A s.heap H1 locs1 → W p l e R s m args below meth c H1 locs1 k2 s2 Q (F0 m (pc + 3) ls rest)) : W p l e R s m args below meth c H locs cells slots Q (F0 m pc ls st0) := by
  subst hc2; subst hs2
  have hDc : va_D A wc := hD.sub isC hn.1 hC
  have hFc := va_free (wc := wc) hD hS hA isC hC
  have hPc : va_P D vwCl wc H := by
    intro k q hk
    have h1 : (isC.map (fun i => W0[i]?))[k]? = some (some q) := by rw [hC, List.getElem?_map, hk]; rfl
    rw [List.getElem?_map] at h1
    cases hi : isC[k]? with
    | none => rw [hi] at h1; cases h1
    | some i => rw [hi] at h1; exact hP i q (Option.some.inj h1)
  obtain ⟨y1, y2, y3, y4⟩ := hY
  have hrun := va_runI (As := []) (rest := rest) (H := H) (locs := locs) (cells := cells) (slots := slots) (e := e) (below := below) (meth := meth) (g := F0 m pc ls st0) Sx (hM H.size) (cwI 0 Sx.2.2.2.2 hG y1 rfl rfl hini hlink hinm hname ⟨y2, y3, y4⟩ hR) ⟨kBlindN D ct z wc H.size _, fun U hU hW => ⟨rfl, ⟨by rw [hU], by rw [hU]; exact hPc, hDc.weaken (fun _ _ _ _ => trivial), kK.at hK hS hFc hU hW⟩, ⟨va_AO.moved hW.alike hO.1, kNw.warm hW hO.2⟩⟩⟩ rfl rfl hsize hst (lv_room (Nat.le_of_ble_eq_true hrm)) hdg ⟨hcells, hslots⟩
  intro T hT X
  obtain ⟨v', st₀, t, T', L, h0, X', hL, e1, e2, ⟨⟨u, hv, hp1, hd1⟩, hz, hk⟩, st⟩ := hrun T hT X
  cases hv
  rw [h0] at hz hk
  obtain ⟨hP2, hD2⟩ := va_join (wr := isR.filterMap (fun i => W0[i]?)) (w1 := w1 u) (H1 := T'.heap) hP hD isC isR hC hR' hn.2 hdis (fun q h1 h2 => by rw [e1]; exact hk q h1 h2) hFc (by rw [e1]; exact hp1) hd1
  rw [hW] at hP2 hD2
  obtain ⟨t2, a1, b1⟩ := kk u T'.heap (locs ++ L) hP2 hD2
    ⟨Nat.le_trans hS.1 (by rw [e1]; exact hz), fun q h1 h2 => by rw [e1, hk q (Nat.lt_of_lt_of_le h1 hS.1) (fun z => h2 (hFc q z))]; exact hS.2.1 q h1 h2, fun q hq => by
      rcases List.mem_append.mp hq with h | h
      · exact hS.2.2 q h
      · exact hFc _ (hL q h)⟩ T' rfl X'
  exact ⟨t2, st t2 a1, b1⟩
/-- ... of a nest mate's private one -/
theorem kIn {S : Type} {host : String} {W0 wc : va_W} {w1 : S → va_W} {b fr mc ms lo k2 s2 : Nat} {W1 : S → va_W} (Sx : CallFix p m c cc nL s args Ts own) (hM : kN l D ct z y wsy fr mc ms lo b wc w1) (hG : GoodIn Ts wsy) (hY : kY y bytes maxL none wsy wsy' 0) (hname : y.name = "<init>") (hini : (Cond.initialized y.cls).before args s = true) (hnw : va_Nw (.methodLinkNest own index y host) s) (hinm : (Cond.instanceMethod y).before args s = true) (hR : fr + 1 ≤ R.frames ∧ 8 + (maxL + 11) + lo ≤ R.locals)
    (hK : kK D ct z A s) (hO : kOW s) (hP : va_P D vwCl W0 H) (hD : va_D A W0) (hS : va_S A s.heap H locs) (hA : ∀ q : Nat, s.heap.size ≤ q → A q) (isC isR : List Nat)
    (hC : isC.map (fun i => W0[i]?) = wc.map some) (hR' : isR.map (fun i => W0[i]?) = (isR.filterMap (fun i => W0[i]?)).map some) (hn : va_nd isC = true ∧ va_nd isR = true) (hdis : ∀ i ∈ isR, i ∉ isC) (hW : ∀ u, isR.filterMap (fun i => W0[i]?) ++ w1 u = W1 u)
    (hsize : ls.size = nL) (hst : st0 = .ref b :: rest) (hrm : Nat.ble (rest.map fun v => v.category).sum 8 = true) (hc2 : cells + mc = k2) (hs2 : slots + ms = s2) (hcells : k2 ≤ R.cells) (hslots : s2 ≤ R.slots) (hdg : decode cc pc = .ok (.invokespecial index, 3))
    (kk : ∀ (u : S) (H1 : Heap) (locs1 : List Loc), va_P D vwCl (W1 u) H1 → va_D A (W1 u) → va_S A s.heap H1 locs1 → W p l e R s m args below meth c H1 locs1 k2 s2 Q (F0 m (pc + 3) ls rest)) : W p l e R s m args below meth c H locs cells slots Q (F0 m pc ls st0) := by
  subst hc2; subst hs2
  have hDc : va_D A wc := hD.sub isC hn.1 hC
  have hFc := va_free (wc := wc) hD hS hA isC hC
  have hPc : va_P D vwCl wc H := by
    intro k q hk
    have h1 : (isC.map (fun i => W0[i]?))[k]? = some (some q) := by rw [hC, List.getElem?_map, hk]; rfl
    rw [List.getElem?_map] at h1
    cases hi : isC[k]? with
    | none => rw [hi] at h1; cases h1
    | some i => rw [hi] at h1; exact hP i q (Option.some.inj h1)
  obtain ⟨y1, y2, y3, y4⟩ := hY
  have hrun := va_runIN (As := []) (rest := rest) (H := H) (locs := locs) (cells := cells) (slots := slots) (e := e) (below := below) (meth := meth) (g := F0 m pc ls st0) Sx (hM H.size) ⟨va_cnB 0 Sx.2.2.2.2 hG y1 rfl rfl hnw hini ⟨y2, y3, y4⟩ hR, hname, hinm⟩ ⟨kBlindN D ct z wc H.size _, fun U hU hW => ⟨rfl, ⟨by rw [hU], by rw [hU]; exact hPc, hDc.weaken (fun _ _ _ _ => trivial), kK.at hK hS hFc hU hW⟩, ⟨va_AO.moved hW.alike hO.1, kNw.warm hW hO.2⟩⟩⟩ rfl rfl hsize hst (lv_room (Nat.le_of_ble_eq_true hrm)) hdg ⟨hcells, hslots⟩
  intro T hT X
  obtain ⟨v', st₀, t, T', L, h0, X', hL, e1, e2, ⟨⟨u, hv, hp1, hd1⟩, hz, hk⟩, st⟩ := hrun T hT X
  cases hv
  rw [h0] at hz hk
  obtain ⟨hP2, hD2⟩ := va_join (wr := isR.filterMap (fun i => W0[i]?)) (w1 := w1 u) (H1 := T'.heap) hP hD isC isR hC hR' hn.2 hdis (fun q h1 h2 => by rw [e1]; exact hk q h1 h2) hFc (by rw [e1]; exact hp1) hd1
  rw [hW] at hP2 hD2
  obtain ⟨t2, a1, b1⟩ := kk u T'.heap (locs ++ L) hP2 hD2
    ⟨Nat.le_trans hS.1 (by rw [e1]; exact hz), fun q h1 h2 => by rw [e1, hk q (Nat.lt_of_lt_of_le h1 hS.1) (fun z => h2 (hFc q z))]; exact hS.2.1 q h1 h2, fun q hq => by
      rcases List.mem_append.mp hq with h | h
      · exact hS.2.2 q h
      · exact hFc _ (hL q h)⟩ T' rfl X'
  exact ⟨t2, st t2 a1, b1⟩
theorem kAst {W0 W1 : va_W} {a : Nat} (hx : p.tables.exec = Jvm.exec) (hb : c.code = cc) (hK : kK D ct z A s) (hP : va_P D vwCl W0 H) (hD : va_D A W0) (hS : va_S A s.heap H locs) (q0 qk : Nat) {n v : Nat} {vs : List Value} {f : Nat → Option Nat} (ha : W0[q0]? = some (a, .inl (ct.2.2, n, .inr (.inr (.inr (.inr f)))))) (hv : W0[qk]? = some (v, .inr (3, vs))) {i : Int32} (hin : vp_in i n) (hW : W0.set q0 (a, .inl (ct.2.2, n, .inr (.inr (.inr (.inr (va_up f i.toNatClampNeg (some v))))))) = W1) (hdg : decode cc pc = .ok (.aastore, 1))
    (kk : ∀ (H1 : Heap) (locs1 : List Loc), va_P D vwCl W1 H1 → va_D A W1 → va_S A s.heap H1 locs1 → W p l e R s m args below meth c H1 locs1 cells slots Q (F0 m (pc + 1) ls rest)) : W p l e R s m args below meth c H locs cells slots Q (F0 m pc ls (.ref v :: .int i :: .ref a :: rest)) := by
  subst hW
  exact va_astq hx hb hK.1 hP hD hS q0 2 qk 3 ha rfl hv rfl hin hdg kk
end KN
