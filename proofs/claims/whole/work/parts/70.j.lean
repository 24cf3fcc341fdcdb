/-! CONSTRUCTORS: worlds as lists that grow -/
def Jw (D : va_G) (tys : List (ClassId × FieldType)) (Nw : List Nrow) (ws : va_W) (A : Nat → Prop) (s : State) (H : Heap) (locs : List Loc) : Prop :=
  va_P D vwCl ws H ∧ va_D A ws ∧ va_S A s.heap H locs ∧ va_K D vwCl tys s ∧ (∀ q, s.heap.size ≤ q → A q) ∧ ∀ q ∈ Nw, va_Nw (.methodLinkNest q.1 q.2.1 q.2.2.1 q.2.2.2) s
def Jp (D : va_G) (tys : List (ClassId × FieldType)) (Nw : List Nrow) (ws : va_W) (sz : Nat) (U : State) : Prop :=
  U.heap.size = sz ∧ va_P D vwCl ws U.heap ∧ va_K D vwCl tys U ∧ va_D (fun _ => True) ws ∧ ∀ q ∈ Nw, va_Nw (.methodLinkNest q.1 q.2.1 q.2.2.1 q.2.2.2) U
def Jq (D : va_G) (tys : List (ClassId × FieldType)) (wo : (Nat → Nat) → va_W) (A : Nat → Prop) (u : Nat → Nat) (t : State) : Prop :=
  va_P D vwCl (wo u) t.heap ∧ va_K D vwCl tys t ∧ va_D A (wo u)
/-- the contract of a constructor: the world wi before, wo behind, with mc cells and ms slots made -/
def Cn (l : Launch) (D : va_G) (tys : List (ClassId × FieldType)) (Nw : List Nrow) (y : MethodName) (ws : List Cond) (rm : Room) (As : List Value) (wi : va_W) (wo : (Nat → Nat) → va_W) (mc ms : Nat) : Prop :=
  ∀ sz, Met l y ws rm (va_Pc As (Jp D tys Nw wi sz)) (va_Qv (fun _ : Nat → Nat => True) (Jq D tys wo (va_A wi sz)) (va_A wi sz)) mc ms (va_A wi sz)
theorem Jp.blind {D : va_G} {tys : List (ClassId × FieldType)} {Nw : List Nrow} {ws : va_W} {sz : Nat} {As : List Value} : FrameBlind (va_Pc As (Jp D tys Nw ws sz)) :=
  fun a U g mk q => by
    obtain ⟨q0, q1, qP, qK, qD, qZ⟩ := q
    exact ⟨q0, q1, qP, va_K.moved (u := U) (U := U.calling g mk a) (Vm.Alike.refl U.vm) qK, qD, fun r hr => va_Nw.same rfl (u := U) (U := U.calling g mk a) rfl (qZ r hr)⟩
section JROWS
variable {p : Program} {l : Launch} {e : Env} {R : Room} {s : State} {m : MethodId} {args : Array Value} {below : List Frame} {meth : Method} {c : Code} {H : Heap} {locs : List Loc} {cells slots : Nat} {Q : State → Prop}
variable {cc : ByteArray} {pc : Nat} {ls : Array Slot} {rest st0 : List Value} {D : va_G} {A : Nat → Prop} {a : Nat} {tys : List (ClassId × FieldType)} {Nw : List Nrow} {ws : va_W}
theorem j_met {y : MethodName} {wds wds' : List Cond} {rm : Room} {As : List Value} {wi : va_W} {wo : (Nat → Nat) → va_W} {mc ms maxL : Nat} {ret : Option FieldType} (hy : plainName y.cls = true) (hn : y.name = "<init>") (hw : wds = Cond.code y cc maxL ret :: wds') (hle : (lg_sl As).length ≤ maxL)
    (body : ∀ (p : Program) (e : Env) (s : State) (m : MethodId) (below : List Frame) (meth : Method) (c : Code) (A : Nat → Prop) (ls : Array Slot), Cx p s m As.toArray meth c cc maxL ret y.cls wds → meth.name = "<init>" → Jw D tys Nw wi A s s.heap [] → lv_has ls maxL (lv_args 0 As) → W p l e rm s m As.toArray below meth c s.heap [] 0 0 (MQ below (va_Qv (fun _ : Nat → Nat => True) (Jq D tys wo A) A) As.toArray s mc ms A) (F0 m 0 ls [])) : Cn l D tys Nw y wds rm As wi wo mc ms := by
  intro sz
  refine Met.ofW (cc := cc) (maxL := maxL) (ret := ret) hy hw ?_
  intro p e s m args below meth c s₁ B hml hv
  obtain ⟨rfl, hv⟩ := hv
  rw [lg_entry_eq]
  obtain ⟨hsz, hP, hK, hD, hZ⟩ := hv
  subst hsz
  exact body p e s m below meth c _ _ ⟨B.exec, B.bytes, B.returns, hml, findClass_of_methodNamed B.named, atoms_spec (ws := wds) B.pre, B.notSynchronized⟩ ((name_of_methodNamed B.named B.method).1.trans hn) ⟨hP, hD.self, va_S.rf, hK, fun q h => Or.inr h, hZ⟩ (lv_entry As hle)
theorem Jw.sub (h : Jw D tys Nw ws A s H locs) (ws' : va_W) (is : List Nat) (hn : va_nd is = true) (hs : is.filterMap (fun i => ws[i]?) = ws') (hs2 : is.map (fun i => ws[i]?) = ws'.map some) : Jw D tys Nw ws' A s H locs :=
  ⟨h.1.sub is hs, h.2.1.sub is hn hs2, h.2.2⟩
theorem j_ret {wo : (Nat → Nat) → va_W} (hx : p.tables.exec = Jvm.exec) (hb : c.code = cc) (hr : meth.sig.returnType = none) (hlocks : meth.locks = false) (u : Nat → Nat) (hJ : Jw D tys Nw (wo u) A s H locs) (hdg : decode cc pc = .ok (.return_, 1)) :
    W p l e R s m args below meth c H locs cells slots (MQ below (va_Qv (fun _ : Nat → Nat => True) (Jq D tys wo A) A) args s cells slots A) (F0 m pc ls []) := by
  obtain ⟨hP, hD, hS, hK, hA, hZ⟩ := hJ
  exact W.vret hx hb hr (fun t ht hW => ⟨⟨u, rfl, trivial, by rw [ht]; exact hP, va_K.moved hW.alike hK, hD⟩, hS.F ht⟩) hS.2.2 hdg hlocks
theorem j_new (hx : p.tables.exec = Jvm.exec) (hb : c.code = cc) {own C : String} {T : u_T} {N ci index : Nat} {Ts : List Cond} (hts : ∀ w ∈ Ts, w.before args s = true) (hin : ∀ w ∈ u_ws C T N, w ∈ Ts) (ty : Nat → FieldType) (hty : ∀ k, k < N → parseFieldDescriptor (T k).2.2.1 = some (ty k)) (hown : s.vm.findClass own = some m.cls) (hcl : Cond.classLink own index C ∈ Ts) (hinst : Cond.instantiable C N ∈ Ts) (hini : Cond.initialized C ∈ Ts)
    (hJ : Jw D tys Nw ws A s H locs) (hc : vwCl[ci]? = some (C, T, N)) (fs : List Value) (hfs : ∀ j, j < N → defaultValue (ty j) = vp_V fs j) {k n : Nat} (hk : cells + 1 ≤ k) (hn : slots + N ≤ n) (hcells : k ≤ R.cells) (hslots : n ≤ R.slots) (hdg : decode cc pc = .ok (.new index, 3))
    (kk : ∀ (q : Nat) (H1 : Heap), Jw D tys Nw (ws ++ [(q, .inr (ci, fs))]) A s H1 locs → W p l e R s m args below meth c H1 locs k n Q (F0 m (pc + 3) ls (.ref q :: rest))) : W p l e R s m args below meth c H locs cells slots Q (F0 m pc ls rest) := by
  obtain ⟨hP, hD, hS, hK, hA, hZ⟩ := hJ
  refine va_new hx hb hts hin ty hty hown (hts _ hcl) (hts _ hinst) (hts _ hini) hK hP hD hS hA hc hfs (Nat.le_trans hk hcells) (Nat.le_trans hn hslots) hdg (fun q H1 hP hD hS => ?_)
  exact W.widen hk hn (kk q H1 ⟨hP, hD, hS, hK, hA, hZ⟩)
theorem j_one {U : State} {c1 c2 : ClassId} (h1 : va_RA U c1 .int) (h2 : va_RA U c2 .int) : c1 = c2 := by
  have e1 : U.vm.findClass ("[" ++ FieldType.int.toString) = some c1 := h1
  have e2 : U.vm.findClass ("[" ++ FieldType.int.toString) = some c2 := h2
  exact Option.some.inj (e1.symm.trans e2)
theorem j_oneZ {U : State} {c1 c2 : ClassId} (h1 : va_RA U c1 .boolean) (h2 : va_RA U c2 .boolean) : c1 = c2 := by
  have e1 : U.vm.findClass ("[" ++ FieldType.boolean.toString) = some c1 := h1
  have e2 : U.vm.findClass ("[" ++ FieldType.boolean.toString) = some c2 := h2
  exact Option.some.inj (e1.symm.trans e2)
theorem j_newI (hx : p.tables.exec = Jvm.exec) (hb : c.code = cc) {Ts : List Cond} (hts : ∀ w ∈ Ts, w.before args s = true) (harr : Cond.arrayClass .int ∈ Ts) (hJ : Jw D tys Nw ws A s H locs) {cy : ClassId} (hcy : (cy, FieldType.int) ∈ tys) {x : Int32} {N : Nat} (hn0 : ¬ x < 0) (hN : x.toNatClampNeg = N) (hbytes : N * componentBytes .int ≤ 536870912) {k n : Nat} (hk : cells + 1 ≤ k) (hn : slots + N ≤ n) (hcells : k ≤ R.cells) (hslots : n ≤ R.slots) (hdg : decode cc pc = .ok (.newarray .int, 2))
    (kk : ∀ (q : Nat) (H1 : Heap), Jw D tys Nw (ws ++ [(q, .inl (cy, N, .inl (fun _ => nI 0)))]) A s H1 locs → W p l e R s m args below meth c H1 locs k n Q (F0 m (pc + 2) ls (.ref q :: rest))) : W p l e R s m args below meth c H locs cells slots Q (F0 m pc ls (.int x :: rest)) := by
  obtain ⟨hP, hD, hS, hK, hA, hZ⟩ := hJ
  refine va_newa (atype := .int) (ty := .int) (a0 := (N, .inl (fun _ => nI 0))) hx hb (hts _ harr) rfl hK hP hD hS hA (fun _ => rfl) hn0 hN hbytes (Nat.le_trans hk hcells) (Nat.le_trans hn hslots) hdg (fun q cA H1 hK' hP hD hS => ?_)
  have e : cA = cy := by
    obtain ⟨i, hi⟩ := List.getElem?_of_mem hcy
    refine j_one (U := s) (hK'.2 tys.length (cA, .int) (by simp)).2 (hK.2 i _ hi).2
  subst e
  exact W.widen hk hn (kk q H1 ⟨hP, hD, hS, hK, hA, hZ⟩)
theorem j_newZ (hx : p.tables.exec = Jvm.exec) (hb : c.code = cc) {Ts : List Cond} (hts : ∀ w ∈ Ts, w.before args s = true) (harr : Cond.arrayClass .boolean ∈ Ts) (hJ : Jw D tys Nw ws A s H locs) {cy : ClassId} (hcy : (cy, FieldType.boolean) ∈ tys) {x : Int32} {N : Nat} (hn0 : ¬ x < 0) (hN : x.toNatClampNeg = N) (hbytes : N * componentBytes .boolean ≤ 536870912) {k n : Nat} (hk : cells + 1 ≤ k) (hn : slots + N ≤ n) (hcells : k ≤ R.cells) (hslots : n ≤ R.slots) (hdg : decode cc pc = .ok (.newarray .boolean, 2))
    (kk : ∀ (q : Nat) (H1 : Heap), Jw D tys Nw (ws ++ [(q, .inl (cy, N, .inl (fun _ => nI 0)))]) A s H1 locs → W p l e R s m args below meth c H1 locs k n Q (F0 m (pc + 2) ls (.ref q :: rest))) : W p l e R s m args below meth c H locs cells slots Q (F0 m pc ls (.int x :: rest)) := by
  obtain ⟨hP, hD, hS, hK, hA, hZ⟩ := hJ
  refine va_newa (atype := .boolean) (ty := .boolean) (a0 := (N, .inl (fun _ => nI 0))) hx hb (hts _ harr) rfl hK hP hD hS hA (fun _ => rfl) hn0 hN hbytes (Nat.le_trans hk hcells) (Nat.le_trans hn hslots) hdg (fun q cA H1 hK' hP hD hS => ?_)
  have e : cA = cy := by
    obtain ⟨i, hi⟩ := List.getElem?_of_mem hcy
    refine j_oneZ (U := s) (hK'.2 tys.length (cA, .boolean) (by simp)).2 (hK.2 i _ hi).2
  subst e
  exact W.widen hk hn (kk q H1 ⟨hP, hD, hS, hK, hA, hZ⟩)
theorem j_get (hx : p.tables.exec = Jvm.exec) (hb : c.code = cc) {own ref C : String} {T : u_T} {N ci index : Nat} {Ts : List Cond} (hts : ∀ w ∈ Ts, w.before args s = true) (hin : ∀ w ∈ u_ws C T N, w ∈ Ts) (hown : s.vm.findClass own = some m.cls) (hJ : Jw D tys Nw ws A s H locs) (q0 : Nat) {fs : List Value} (he : ws[q0]? = some (a, .inr (ci, fs))) (hc : vwCl[ci]? = some (C, T, N)) (k : Nat) (hk : k < N) (hm : Cond.fieldLink own index ref (T k).2.1 (T k).2.2.1 ∈ Ts) (href : (T k).1 = ref) {v : Value} (hv : fs[k]? = some v) (hdg : decode cc pc = .ok (.getfield index, 3))
    (kk : W p l e R s m args below meth c H locs cells slots Q (F0 m (pc + 3) ls (v :: rest))) : W p l e R s m args below meth c H locs cells slots Q (F0 m pc ls (.ref a :: rest)) := by
  subst href
  exact va_get hx hb hts hin hown hJ.2.2.2.1 hJ.1 q0 he hc k hk (hts _ hm) (fun _ h9 => h9) hv hdg kk
theorem j_put (hx : p.tables.exec = Jvm.exec) (hb : c.code = cc) {own ref C : String} {T : u_T} {N ci index : Nat} {Ts : List Cond} (hts : ∀ w ∈ Ts, w.before args s = true) (hin : ∀ w ∈ u_ws C T N, w ∈ Ts) (ty0 : Nat → FieldType) (hty : ∀ k, k < N → parseFieldDescriptor (T k).2.2.1 = some (ty0 k)) (hnm : ∀ a, a < N → ∀ b, b < N → a ≠ b → (T a).2.1 ≠ (T b).2.1) (hown : s.vm.findClass own = some m.cls) (hin2 : meth.name = "<init>") (hJ : Jw D tys Nw ws A s H locs) (q0 : Nat) {fs : List Value} (he : ws[q0]? = some (a, .inr (ci, fs))) (hc : vwCl[ci]? = some (C, T, N)) (k : Nat) (hk : k < N) (hm : Cond.fieldLink own index ref (T k).2.1 (T k).2.2.1 ∈ Ts) (href : (T k).1 = ref) (hdecl : (T k).1 = own) {v : Value} (hn : narrow (ty0 k) v = v) (hfit : fits (ty0 k) v = true) (hl : k < fs.length) (ws' : va_W) (hw : ws.set q0 (a, .inr (ci, fs.set k v)) = ws') (hdg : decode cc pc = .ok (.putfield index, 3))
    (kk : ∀ (H1 : Heap) (locs1 : List Loc), Jw D tys Nw ws' A s H1 locs1 → W p l e R s m args below meth c H1 locs1 cells slots Q (F0 m (pc + 3) ls rest)) : W p l e R s m args below meth c H locs cells slots Q (F0 m pc ls (v :: .ref a :: rest)) := by
  subst href
  obtain ⟨hP, hD, hS, hK, hA, hZ⟩ := hJ
  cases hfin : (T k).2.2.2 with
  | false =>
    refine va_put hx hb hts hin ty0 hty hnm hown hK hP hD hS q0 he hc k hk (hts _ hm) (fun _ h9 => h9) hfin (hty k hk) hn hfit hl hdg (fun H1 locs1 hP hD hS => ?_)
    rw [hw] at hP hD
    exact kk H1 locs1 ⟨hP, hD, hS, hK, hA, hZ⟩
  | true =>
    refine va_putF hx hb hts hin ty0 hty hnm hown hK hP hD hS q0 he hc k hk (hts _ hm) (fun _ h9 => h9) hfin hin2 hdecl (hty k hk) hn hfit hl hdg (fun H1 locs1 hP hD hS => ?_)
    rw [hw] at hP hD
    exact kk H1 locs1 ⟨hP, hD, hS, hK, hA, hZ⟩
theorem j_iast (hx : p.tables.exec = Jvm.exec) (hb : c.code = cc) (hJ : Jw D tys Nw ws A s H locs) (q0 t0 : Nat) {cA : ClassId} {n : Nat} {f : Nat → Int32} (ha : ws[q0]? = some (a, .inl (cA, n, .inl f))) (ht : tys[t0]? = some (cA, .int)) {i x : Int32} (hin : vp_in i n) (ws' : va_W) (hw : ws.set q0 (a, .inl (cA, n, .inl (upd f i.toNatClampNeg x))) = ws') (hdg : decode cc pc = .ok (.iastore, 1))
    (kk : ∀ (H1 : Heap) (locs1 : List Loc), Jw D tys Nw ws' A s H1 locs1 → W p l e R s m args below meth c H1 locs1 cells slots Q (F0 m (pc + 1) ls rest)) : W p l e R s m args below meth c H locs cells slots Q (F0 m pc ls (.int x :: .int i :: .ref a :: rest)) := by
  obtain ⟨hP, hD, hS, hK, hA, hZ⟩ := hJ
  refine va_iast hx hb hK hP hD hS q0 t0 ha ht hin hdg (fun H1 locs1 hP hD hS => ?_)
  rw [hw] at hP hD
  exact kk H1 locs1 ⟨hP, hD, hS, hK, hA, hZ⟩
variable {y : MethodName} {bytes : ByteArray} {maxL nL n index mc ms : Nat} {ret : Option FieldType} {wds : List Cond} {rm : Room} {Ts : List Cond} {own host : String} {As : List Value}
theorem Jw.pre {wc : va_W} {U : State} (h : Jw D tys Nw ws A s H locs) (isC : List Nat) (hn : va_nd isC = true) (hC : isC.map (fun i => ws[i]?) = wc.map some) (hC2 : isC.filterMap (fun i => ws[i]?) = wc) (hU : U.heap = H) (hW : s.WarmedH U.vm) : Jp D tys Nw wc H.size U := by
  obtain ⟨hP, hD, hS, hK, hA, hZ⟩ := h
  subst hU
  exact ⟨rfl, hP.sub isC hC2, va_K.moved hW.alike hK, (hD.sub isC hn hC).weaken (fun _ _ _ _ => trivial), fun q hq => va_Nw.warmM hW (hZ q hq)⟩
/-- a constructor's call -/
theorem j_callI {ret2 : Option FieldType} (C0 : Cx p s m args meth c cc nL ret2 own Ts) {wc wr : va_W} {wo : (Nat → Nat) → va_W} (hM : Cn l D tys Nw y wds rm (.ref a :: As) wc wo mc ms) (cw : CallB R s args own index y bytes maxL none wds rm mc ms n ∧ y.name = "<init>" ∧ (Cond.instanceMethod y).before args s = true) (hJ : Jw D tys Nw ws A s H locs) (isC isR : List Nat) (hnC : va_nd isC = true) (hC : isC.map (fun i => ws[i]?) = wc.map some) (hC2 : isC.filterMap (fun i => ws[i]?) = wc) (hR : isR.map (fun i => ws[i]?) = wr.map some) (hnR : va_nd isR = true) (hdis : ∀ i ∈ isR, i ∉ isC) (hn : As.length = n) (hsz : ls.size = nL) (hst : st0 = As.reverse ++ .ref a :: rest) (hW : (rest.map fun v => v.category).sum ≤ 8) (hdg : decode cc pc = .ok (.invokespecial index, 3)) {k nn : Nat} (hk : cells + mc ≤ k) (hnn : slots + ms ≤ nn) (hcells : k ≤ R.cells) (hslots : nn ≤ R.slots)
    (kk : ∀ (u : Nat → Nat) (H1 : Heap) (locs1 : List Loc), Jw D tys Nw (wr ++ wo u) A s H1 locs1 → W p l e R s m args below meth c H1 locs1 k nn Q (F0 m (pc + 3) ls rest)) : W p l e R s m args below meth c H locs cells slots Q (F0 m pc ls st0) := by
  have hF := va_free (wc := wc) hJ.2.1 hJ.2.2.1 hJ.2.2.2.2.1 isC hC
  refine va_callv (va_runI (As := As) (rest := rest) ⟨C0.1, C0.2.1, C0.2.2.2.1, C0.2.2.2.2.1, C0.2.2.2.2.2.1⟩ (hM H.size) cw ⟨Jp.blind, fun U hU hW => ⟨rfl, hJ.pre isC hnC hC hC2 hU hW⟩⟩ rfl hn hsz hst (lv_room hW) hdg ⟨Nat.le_trans hk hcells, Nat.le_trans hnn hslots⟩) hJ.2.2.1 (fun q _ h => hF q h) hF (fun u t H1 locs1 ht hvm hw hB hz1 hk1 hS => ?_)
  obtain ⟨hP, hD, hS0, hK, hA, hZ⟩ := hJ
  obtain ⟨hP1, hK1, hD1⟩ := hB
  subst ht
  obtain ⟨hP2, hD2⟩ := va_join (wr := wr) hP hD isC isR hC hR hnR hdis hk1 hF hP1 hD1
  exact W.widen hk hnn (kk u _ locs1 ⟨hP2, hD2, hS, hK, hA, hZ⟩)
/-- the same, of a nest mate -/
theorem j_callN {ret2 : Option FieldType} (C0 : Cx p s m args meth c cc nL ret2 own Ts) {wc wr : va_W} {wo : (Nat → Nat) → va_W} {wds' : List Cond} (hM : Cn l D tys Nw y wds rm (.ref a :: As) wc wo mc ms) (hG : GoodIn Ts wds) (hw0 : wds = Cond.code y bytes maxL none :: wds') (hrc : rm.cells = mc) (hrs : rm.slots = ms) (hN : (own, index, y, host) ∈ Nw) (hini : Cond.initialized y.cls ∈ Ts) (hins : Cond.instanceMethod y ∈ Ts) (hyn : y.name = "<init>")
    (hd : y.cls ≠ "java/lang/invoke/MethodHandle" ∧ y.cls ≠ "java/lang/invoke/VarHandle" ∧ (parseMethodDescriptor y.desc).map (fun d => d.parameters.length) = some n) (hRm : rm.frames + 1 ≤ R.frames ∧ 8 + (maxL + 11) + rm.locals ≤ R.locals) (hJ : Jw D tys Nw ws A s H locs) (isC isR : List Nat) (hnC : va_nd isC = true) (hC : isC.map (fun i => ws[i]?) = wc.map some) (hC2 : isC.filterMap (fun i => ws[i]?) = wc) (hR : isR.map (fun i => ws[i]?) = wr.map some) (hnR : va_nd isR = true) (hdis : ∀ i ∈ isR, i ∉ isC) (hn : As.length = n) (hsz : ls.size = nL) (hst : st0 = As.reverse ++ .ref a :: rest) (hW : (rest.map fun v => v.category).sum ≤ 8) (hdg : decode cc pc = .ok (.invokespecial index, 3)) {k nn : Nat} (hk : cells + mc ≤ k) (hnn : slots + ms ≤ nn) (hcells : k ≤ R.cells) (hslots : nn ≤ R.slots)
    (kk : ∀ (u : Nat → Nat) (H1 : Heap) (locs1 : List Loc), Jw D tys Nw (wr ++ wo u) A s H1 locs1 → W p l e R s m args below meth c H1 locs1 k nn Q (F0 m (pc + 3) ls rest)) : W p l e R s m args below meth c H locs cells slots Q (F0 m pc ls st0) := by
  have hF := va_free (wc := wc) hJ.2.1 hJ.2.2.1 hJ.2.2.2.2.1 isC hC
  have hts := C0.2.2.2.2.2.1
  refine va_callv (va_runIN (As := As) (rest := rest) ⟨C0.1, C0.2.1, C0.2.2.2.1, C0.2.2.2.2.1, hts⟩ (hM H.size) ⟨va_cnB n hts hG hw0 hrc hrs (hJ.2.2.2.2.2 _ hN) (hts _ hini) hd hRm, hyn, hts _ hins⟩ ⟨Jp.blind, fun U hU hW => ⟨rfl, hJ.pre isC hnC hC hC2 hU hW⟩⟩ rfl hn hsz hst (lv_room hW) hdg ⟨Nat.le_trans hk hcells, Nat.le_trans hnn hslots⟩) hJ.2.2.1 (fun q _ h => hF q h) hF (fun u t H1 locs1 ht hvm hw hB hz1 hk1 hS => ?_)
  obtain ⟨hP, hD, hS0, hK, hA, hZ⟩ := hJ
  obtain ⟨hP1, hK1, hD1⟩ := hB
  subst ht
  obtain ⟨hP2, hD2⟩ := va_join (wr := wr) hP hD isC isR hC hR hnR hdis hk1 hF hP1 hD1
  exact W.widen hk hnn (kk u _ locs1 ⟨hP2, hD2, hS, hK, hA, hZ⟩)
/-- a static method of ints, in no world -/
theorem j_callS {post : Int32 → St → Prop} {σ : St} {ret2 : Option FieldType} (C0 : Cx p s m args meth c cc nL ret2 own Ts) (hM : Ci l D tys [] [] (fun _ => []) y wds rm As σ post) (cw : CallB R s args own index y bytes maxL ret wds rm 0 0 n ∧ (Cond.static y).before args s = true) (hJ : Jw D tys Nw ws A s H locs) (isR : List Nat) (hR : isR.map (fun i => ws[i]?) = ws.map some) (hnR : va_nd isR = true) (hn : As.length = n) (hsz : ls.size = nL) (hst : st0 = As.reverse ++ rest) (hW : (rest.map fun v => v.category).sum ≤ 8) (hdg : decode cc pc = .ok (.invokestatic index, 3)) (hf : cells ≤ R.cells ∧ slots ≤ R.slots)
    (kk : ∀ (r : Int32) (σ' : St) (H1 : Heap) (locs1 : List Loc), post r σ' → Jw D tys Nw ws A s H1 locs1 → W p l e R s m args below meth c H1 locs1 cells slots Q (F0 m (pc + 3) ls (.int r :: rest))) : W p l e R s m args below meth c H locs cells slots Q (F0 m pc ls st0) := by
  have hF := va_free (wc := []) hJ.2.1 hJ.2.2.1 hJ.2.2.2.2.1 [] rfl
  refine va_calli (va_runS (As := As) (rest := rest) ⟨C0.1, C0.2.1, C0.2.2.2.1, C0.2.2.2.2.1, C0.2.2.2.2.2.1⟩ (hM H.size) cw ⟨Kp.blind, fun U hU hW => ⟨rfl, ?_⟩⟩ rfl hn hsz hst (lv_room hW) hdg hf) hJ.2.2.1 (fun q _ h => hF q h) hF (fun r u t H1 locs1 ht _ hw hB _ hk1 hS => ?_)
  · obtain ⟨hP, hD, hS, hK, hA, hZ⟩ := hJ
    subst hU
    exact ⟨rfl, fun _ _ h => by simp at h, va_K.moved hW.alike hK, ⟨fun _ _ _ _ h => by simp at h, fun _ _ h => by simp at h⟩, fun _ h => by simp at h, fun _ h => by simp at h⟩
  · obtain ⟨hP, hD, hS0, hK, hA, hZ⟩ := hJ
    obtain ⟨hP1, hK1, hD1⟩ := hB
    subst ht
    obtain ⟨hP2, hD2⟩ := va_join (wc := []) (wr := ws) (w1 := []) hP hD [] isR rfl hR hnR (fun _ _ h => by simp at h) hk1 hF hP1 hD1
    rw [List.append_nil] at hP2 hD2
    exact kk r u _ locs1 hw ⟨hP2, hD2, hS, hK, hA, hZ⟩
/-- a method that gives a known cell, in a part of the world that stays -/
theorem j_callR {ret2 : Option FieldType} {a0 ci N : Nat} {C : String} {T : u_T} {fs : List Value} {wc : va_W} {σ : St} (C0 : Cx p s m args meth c cc nL ret2 own Ts) (hM : Cr l D tys [] [] (fun _ => wc) y wds rm [.ref a] a0 σ (fun _ => True)) (cw : CallW R s args own C index y bytes maxL ret wds rm 0 0 0) (hJ : Jw D tys Nw ws A s H locs) (isC isR : List Nat) {wr : va_W} (hnC : va_nd isC = true) (hC : isC.map (fun i => ws[i]?) = wc.map some) (hC2 : isC.filterMap (fun i => ws[i]?) = wc) (hR : isR.map (fun i => ws[i]?) = wr.map some) (hnR : va_nd isR = true) (hdis : ∀ i ∈ isR, i ∉ isC) (q0 : Nat) (he : ws[q0]? = some (a, .inr (ci, fs))) (hc : vwCl[ci]? = some (C, T, N)) (hsz : ls.size = nL) (hst : st0 = .ref a :: rest) (hW : (rest.map fun v => v.category).sum ≤ 8) (hdg : decode cc pc = .ok (.invokevirtual index, 3)) (hf : cells ≤ R.cells ∧ slots ≤ R.slots)
    (kk : ∀ (H1 : Heap) (locs1 : List Loc), Jw D tys Nw (wr ++ wc) A s H1 locs1 → W p l e R s m args below meth c H1 locs1 cells slots Q (F0 m (pc + 3) ls (.ref a0 :: rest))) : W p l e R s m args below meth c H locs cells slots Q (F0 m pc ls st0) := by
  have hF := va_free (wc := wc) hJ.2.1 hJ.2.2.1 hJ.2.2.2.2.1 isC hC
  refine va_callr (va_runV (As := []) (rest := rest) ⟨C0.1, C0.2.1, C0.2.2.2.1, C0.2.2.2.2.1, C0.2.2.2.2.2.1⟩ (hM H.size) cw ⟨Kp.blind, va_recv hJ.2.2.2.1 hJ.1 hc he, fun U hU hW => ⟨rfl, ?_⟩⟩ rfl rfl hsz hst (lv_room hW) hdg hf) hJ.2.2.1 (fun q _ h => hF q h) hF (fun u ra t H1 locs1 ht _ hw hB _ hk1 hS => ?_)
  · obtain ⟨g1, g2, g3, g4, g5⟩ := hJ.pre isC hnC hC hC2 hU hW
    exact ⟨g1, g2, g3, g4, fun _ h => by simp at h, fun _ h => by simp at h⟩
  · obtain ⟨hP, hD, hS0, hK, hA, hZ⟩ := hJ
    obtain ⟨rfl, hP1, hK1, hD1⟩ := hB
    subst ht
    obtain ⟨hP2, hD2⟩ := va_join (wr := wr) hP hD isC isR hC hR hnR hdis hk1 hF hP1 hD1
    exact kk _ locs1 ⟨hP2, hD2, hS, hK, hA, hZ⟩
end JROWS
