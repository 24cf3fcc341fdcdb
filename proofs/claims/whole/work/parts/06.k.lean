/-! ROWS OF MY OWN over the kit's worlds: one state of ints a world (cell, place), one world a method, one row a step. -/
abbrev St : Type := Nat → Nat → Int32
def up2 (σ : St) (c i : Nat) (v : Int32) : St := fun c' => if c' = c then upd (σ c) i v else σ c'
def upA (σ : St) (c : Nat) (f : Nat → Int32) : St := fun c' => if c' = c then f else σ c'
abbrev Zrow : Type := String × String × String × Nat × Nat × (Nat → Int32)
abbrev Nrow : Type := String × Nat × MethodName × String
/-- nest words, and static arrays that nobody writes -/
def Zz (Nw : List Nrow) (Zs : List Zrow) (A : Nat → Prop) (U : State) (H : Heap) : Prop := (∀ q ∈ Nw, va_Nw (.methodLinkNest q.1 q.2.1 q.2.2.1 q.2.2.2) U) ∧ ∀ q ∈ Zs, va_Z q.1 q.2.1 q.2.2.1 (.ref q.2.2.2.1) A U H ∧ va_T .int q.2.2.2.1 q.2.2.2.2.1 (fun j => .int (q.2.2.2.2.2 j)) A U H
theorem Zz.calling {Nw : List Nrow} {Zs : List Zrow} {A : Nat → Prop} {U : State} {g : JFrame} {mk : MethodId} {a : Array Value} (h : Zz Nw Zs A U U.heap) : Zz Nw Zs A (U.calling g mk a) (U.calling g mk a).heap :=
  ⟨fun q hq => va_Nw.same rfl (u := U) (U := U.calling g mk a) rfl (h.1 q hq), fun q hq => ⟨va_Z.moved (u := U) (U := U.calling g mk a) (Vm.Alike.refl U.vm) (h.2 q hq).1, va_T.moved (u := U) (U := U.calling g mk a) (Vm.Alike.refl U.vm) (h.2 q hq).2⟩⟩
theorem Zz.at {Nw : List Nrow} {Zs : List Zrow} {A B : Nat → Prop} {s U : State} {H : Heap} (h : Zz Nw Zs A s s.heap) (hW : s.WarmedH U.vm) (hk : ∀ a : Nat, a < s.heap.size → ¬ A a → H[a]? = s.heap[a]?) (hAB : ∀ q, B q → A q) : Zz Nw Zs B U H :=
  ⟨fun q hq => va_Nw.warmM hW (h.1 q hq), fun q hq => ⟨((va_Z.moved hW.alike (h.2 q hq).1).kept hk).narrow hAB, ((va_T.moved hW.alike (h.2 q hq).2).kept hk).narrow hAB⟩⟩
/-- what holds in the midst of a method: its world with the ints σ, the frame, the tables -/
def Iw (D : va_G) (tys : List (ClassId × FieldType)) (Nw : List Nrow) (Zs : List Zrow) (w : St → va_W) (A : Nat → Prop) (s : State) (H : Heap) (locs : List Loc) (σ : St) : Prop :=
  va_P D vwCl (w σ) H ∧ va_D A (w σ) ∧ va_S A s.heap H locs ∧ va_K D vwCl tys s ∧ (∀ q, s.heap.size ≤ q → A q) ∧ Zz Nw Zs A s s.heap
def Kp (D : va_G) (tys : List (ClassId × FieldType)) (Nw : List Nrow) (Zs : List Zrow) (w : St → va_W) (σ : St) (sz : Nat) (U : State) : Prop :=
  U.heap.size = sz ∧ va_P D vwCl (w σ) U.heap ∧ va_K D vwCl tys U ∧ va_D (fun _ => True) (w σ) ∧ Zz Nw Zs (va_A (w σ) sz) U U.heap
def Kq (D : va_G) (tys : List (ClassId × FieldType)) (w : St → va_W) (A : Nat → Prop) (σ : St) (t : State) : Prop :=
  va_P D vwCl (w σ) t.heap ∧ va_K D vwCl tys t ∧ va_D A (w σ)
def Kr (D : va_G) (tys : List (ClassId × FieldType)) (w : St → va_W) (A : Nat → Prop) (a0 : Nat) (σ : St) (a : Nat) (t : State) : Prop := a = a0 ∧ Kq D tys w A σ t
/-- the contracts: an int, nothing, a known cell -/
def Ci (l : Launch) (D : va_G) (tys : List (ClassId × FieldType)) (Nw : List Nrow) (Zs : List Zrow) (w : St → va_W) (y : MethodName) (ws : List Cond) (rm : Room) (As : List Value) (σ : St) (post : Int32 → St → Prop) : Prop :=
  ∀ sz, Met l y ws rm (va_Pc As (Kp D tys Nw Zs w σ sz)) (va_Qi post (Kq D tys w (va_A (w σ) sz)) (va_A (w σ) sz)) 0 0 (va_A (w σ) sz)
def Cv (l : Launch) (D : va_G) (tys : List (ClassId × FieldType)) (Nw : List Nrow) (Zs : List Zrow) (w : St → va_W) (y : MethodName) (ws : List Cond) (rm : Room) (As : List Value) (σ : St) (post : St → Prop) : Prop :=
  ∀ sz, Met l y ws rm (va_Pc As (Kp D tys Nw Zs w σ sz)) (va_Qv post (Kq D tys w (va_A (w σ) sz)) (va_A (w σ) sz)) 0 0 (va_A (w σ) sz)
def Cr (l : Launch) (D : va_G) (tys : List (ClassId × FieldType)) (Nw : List Nrow) (Zs : List Zrow) (w : St → va_W) (y : MethodName) (ws : List Cond) (rm : Room) (As : List Value) (a0 : Nat) (σ : St) (post : St → Prop) : Prop :=
  ∀ sz, Met l y ws rm (va_Pc As (Kp D tys Nw Zs w σ sz)) (va_Qr post (Kr D tys w (va_A (w σ) sz) a0) (va_A (w σ) sz)) 0 0 (va_A (w σ) sz)
/-- a method's constants -/
def Cx (p : Program) (s : State) (m : MethodId) (args : Array Value) (meth : Method) (c : Code) (cc : ByteArray) (nL : Nat) (ret : Option FieldType) (own : String) (Ts : List Cond) : Prop :=
  p.tables.exec = Jvm.exec ∧ c.code = cc ∧ meth.sig.returnType = ret ∧ c.maxLocals = nL ∧ s.vm.findClass own = some m.cls ∧ (∀ w ∈ Ts, w.before args s = true) ∧ meth.locks = false
theorem Kp.blind {D : va_G} {tys : List (ClassId × FieldType)} {Nw : List Nrow} {Zs : List Zrow} {w : St → va_W} {σ : St} {sz : Nat} {As : List Value} : FrameBlind (va_Pc As (Kp D tys Nw Zs w σ sz)) :=
  fun a U g mk q => by
    obtain ⟨q0, q1, qP, qK, qD, qZ⟩ := q
    exact ⟨q0, q1, qP, va_K.moved (u := U) (U := U.calling g mk a) (Vm.Alike.refl U.vm) qK, qD, qZ.calling⟩
theorem Iw.start {D : va_G} {tys : List (ClassId × FieldType)} {Nw : List Nrow} {Zs : List Zrow} {w : St → va_W} {σ : St} {sz : Nat} {s : State} (h : Kp D tys Nw Zs w σ sz s) : Iw D tys Nw Zs w (va_A (w σ) sz) s s.heap [] σ := by
  obtain ⟨hsz, hP, hK, hD, hZ⟩ := h
  subst hsz
  exact ⟨hP, hD.self, va_S.rf, hK, fun q h => Or.inr h, hZ⟩
theorem Iw.free {D : va_G} {tys : List (ClassId × FieldType)} {Nw : List Nrow} {Zs : List Zrow} {w : St → va_W} {σ : St} {s : State} {A : Nat → Prop} {H : Heap} {locs : List Loc} (h : Iw D tys Nw Zs w A s H locs σ) : ∀ q, va_A (w σ) H.size q → A q := by
  obtain ⟨-, hD, hS, -, hA, -⟩ := h
  intro q hq
  rcases hq with ⟨k, e, hk⟩ | hq
  · exact hD.2 k _ hk
  · exact hA q (Nat.le_trans hS.1 hq)
theorem Iw.pre {D : va_G} {tys : List (ClassId × FieldType)} {Nw : List Nrow} {Zs : List Zrow} {w : St → va_W} {σ : St} {s U : State} {A : Nat → Prop} {H : Heap} {locs : List Loc} (h : Iw D tys Nw Zs w A s H locs σ) (hU : U.heap = H) (hW : s.WarmedH U.vm) : Kp D tys Nw Zs w σ H.size U := by
  have hF := h.free
  obtain ⟨hP, hD, hS, hK, hA, hZ⟩ := h
  subst hU
  exact ⟨rfl, hP, va_K.moved hW.alike hK, hD.weaken (fun _ _ _ _ => trivial), hZ.at hW (fun a h1 h2 => hS.2.1 a h1 h2) hF⟩
theorem Iw.back {D : va_G} {tys : List (ClassId × FieldType)} {Nw : List Nrow} {Zs : List Zrow} {w : St → va_W} {σ σ' : St} {s t : State} {A : Nat → Prop} {H H1 : Heap} {locs locs1 : List Loc} (h : Iw D tys Nw Zs w A s H locs σ) (ht : t.heap = H1) (hB : Kq D tys w (va_A (w σ) H.size) σ' t) (hS1 : va_S A s.heap H1 locs1) : Iw D tys Nw Zs w A s H1 locs1 σ' := by
  have hF := h.free
  obtain ⟨hP, hD, hS, hK, hA, hZ⟩ := h
  obtain ⟨hP1, hK1, hD1⟩ := hB
  subst ht
  exact ⟨hP1, hD1.weaken (fun _ q _ z => hF q.1 z), hS1, hK, hA, hZ⟩
section KROWS
variable {p : Program} {l : Launch} {e : Env} {R : Room} {s : State} {m : MethodId} {args : Array Value} {below : List Frame} {meth : Method} {c : Code} {H : Heap} {locs : List Loc} {cells slots : Nat} {Q : State → Prop}
variable {cc : ByteArray} {pc : Nat} {ls : Array Slot} {rest : List Value} {D : va_G} {A : Nat → Prop} {a : Nat} {tys : List (ClassId × FieldType)} {Nw : List Nrow} {Zs : List Zrow} {w : St → va_W} {σ : St}
theorem k_metI {y : MethodName} {ws ws' : List Cond} {rm : Room} {As : List Value} {post : Int32 → St → Prop} {maxL : Nat} {ret : Option FieldType} (hy : plainName y.cls = true) (hw : ws = Cond.code y cc maxL ret :: ws') (hle : (lg_sl As).length ≤ maxL)
    (body : ∀ (p : Program) (e : Env) (s : State) (m : MethodId) (below : List Frame) (meth : Method) (c : Code) (A : Nat → Prop) (ls : Array Slot), Cx p s m As.toArray meth c cc maxL ret y.cls ws → Iw D tys Nw Zs w A s s.heap [] σ → lv_has ls maxL (lv_args 0 As) → W p l e rm s m As.toArray below meth c s.heap [] 0 0 (MQ below (va_Qi post (Kq D tys w A) A) As.toArray s 0 0 A) (F0 m 0 ls [])) : Ci l D tys Nw Zs w y ws rm As σ post := by
  intro sz
  refine Met.ofW (cc := cc) (maxL := maxL) (ret := ret) hy hw ?_
  intro p e s m args below meth c s₁ B hml hv
  obtain ⟨rfl, hv⟩ := hv
  rw [lg_entry_eq]
  exact body p e s m below meth c _ _ ⟨B.exec, B.bytes, B.returns, hml, findClass_of_methodNamed B.named, atoms_spec (ws := ws) B.pre, B.notSynchronized⟩ (Iw.start hv) (lv_entry As hle)
theorem k_metV {y : MethodName} {ws ws' : List Cond} {rm : Room} {As : List Value} {post : St → Prop} {maxL : Nat} {ret : Option FieldType} (hy : plainName y.cls = true) (hw : ws = Cond.code y cc maxL ret :: ws') (hle : (lg_sl As).length ≤ maxL)
    (body : ∀ (p : Program) (e : Env) (s : State) (m : MethodId) (below : List Frame) (meth : Method) (c : Code) (A : Nat → Prop) (ls : Array Slot), Cx p s m As.toArray meth c cc maxL ret y.cls ws → Iw D tys Nw Zs w A s s.heap [] σ → lv_has ls maxL (lv_args 0 As) → W p l e rm s m As.toArray below meth c s.heap [] 0 0 (MQ below (va_Qv post (Kq D tys w A) A) As.toArray s 0 0 A) (F0 m 0 ls [])) : Cv l D tys Nw Zs w y ws rm As σ post := by
  intro sz
  refine Met.ofW (cc := cc) (maxL := maxL) (ret := ret) hy hw ?_
  intro p e s m args below meth c s₁ B hml hv
  obtain ⟨rfl, hv⟩ := hv
  rw [lg_entry_eq]
  exact body p e s m below meth c _ _ ⟨B.exec, B.bytes, B.returns, hml, findClass_of_methodNamed B.named, atoms_spec (ws := ws) B.pre, B.notSynchronized⟩ (Iw.start hv) (lv_entry As hle)
theorem k_metR {y : MethodName} {ws ws' : List Cond} {rm : Room} {As : List Value} {a0 : Nat} {post : St → Prop} {maxL : Nat} {ret : Option FieldType} (hy : plainName y.cls = true) (hw : ws = Cond.code y cc maxL ret :: ws') (hle : (lg_sl As).length ≤ maxL)
    (body : ∀ (p : Program) (e : Env) (s : State) (m : MethodId) (below : List Frame) (meth : Method) (c : Code) (A : Nat → Prop) (ls : Array Slot), Cx p s m As.toArray meth c cc maxL ret y.cls ws → Iw D tys Nw Zs w A s s.heap [] σ → lv_has ls maxL (lv_args 0 As) → W p l e rm s m As.toArray below meth c s.heap [] 0 0 (MQ below (va_Qr post (Kr D tys w A a0) A) As.toArray s 0 0 A) (F0 m 0 ls [])) : Cr l D tys Nw Zs w y ws rm As a0 σ post := by
  intro sz
  refine Met.ofW (cc := cc) (maxL := maxL) (ret := ret) hy hw ?_
  intro p e s m args below meth c s₁ B hml hv
  obtain ⟨rfl, hv⟩ := hv
  rw [lg_entry_eq]
  exact body p e s m below meth c _ _ ⟨B.exec, B.bytes, B.returns, hml, findClass_of_methodNamed B.named, atoms_spec (ws := ws) B.pre, B.notSynchronized⟩ (Iw.start hv) (lv_entry As hle)
theorem k_iret {post : Int32 → St → Prop} {v : Int32} (hx : p.tables.exec = Jvm.exec) (hb : c.code = cc) (hr : meth.sig.returnType = some .int) (hlocks : meth.locks = false) (hI : Iw D tys Nw Zs w A s H locs σ) (h : post v σ) (hdg : decode cc pc = .ok (.ireturn, 1)) :
    W p l e R s m args below meth c H locs cells slots (MQ below (va_Qi post (Kq D tys w A) A) args s cells slots A) (F0 m pc ls [.int v]) := by
  obtain ⟨hP, hD, hS, hK, hA, hZ⟩ := hI
  exact W.iret (v := v) hx hb hr (fun t ht hW => ⟨⟨v, σ, rfl, h, by rw [ht]; exact hP, va_K.moved hW.alike hK, hD⟩, hS.F ht⟩) hS.2.2 hdg hlocks
theorem k_zret {post : Int32 → St → Prop} {v : Int32} (hx : p.tables.exec = Jvm.exec) (hb : c.code = cc) (hr : meth.sig.returnType = some .boolean) (hlocks : meth.locks = false) (hI : Iw D tys Nw Zs w A s H locs σ) (hv : v = nI 0 ∨ v = nI 1) (h : post v σ) (hdg : decode cc pc = .ok (.ireturn, 1)) :
    W p l e R s m args below meth c H locs cells slots (MQ below (va_Qi post (Kq D tys w A) A) args s cells slots A) (F0 m pc ls [.int v]) := by
  obtain ⟨hP, hD, hS, hK, hA, hZ⟩ := hI
  exact W.zret (v := v) hx hb hr (by rcases hv with rfl | rfl <;> rfl) (fun t ht hW => ⟨⟨v, σ, rfl, h, by rw [ht]; exact hP, va_K.moved hW.alike hK, hD⟩, hS.F ht⟩) hS.2.2 hdg hlocks
theorem k_vret {post : St → Prop} (hx : p.tables.exec = Jvm.exec) (hb : c.code = cc) (hr : meth.sig.returnType = none) (hlocks : meth.locks = false) (hI : Iw D tys Nw Zs w A s H locs σ) (h : post σ) (hdg : decode cc pc = .ok (.return_, 1)) :
    W p l e R s m args below meth c H locs cells slots (MQ below (va_Qv post (Kq D tys w A) A) args s cells slots A) (F0 m pc ls []) := by
  obtain ⟨hP, hD, hS, hK, hA, hZ⟩ := hI
  exact W.vret hx hb hr (fun t ht hW => ⟨⟨σ, rfl, h, by rw [ht]; exact hP, va_K.moved hW.alike hK, hD⟩, hS.F ht⟩) hS.2.2 hdg hlocks
theorem k_aret {post : St → Prop} {a0 : Nat} {C : String} (hx : p.tables.exec = Jvm.exec) (hb : c.code = cc) (hr : meth.sig.returnType = some (.object C)) (hlocks : meth.locks = false) (hI : Iw D tys Nw Zs w A s H locs σ) (h : post σ) (hdg : decode cc pc = .ok (.areturn, 1)) :
    W p l e R s m args below meth c H locs cells slots (MQ below (va_Qr post (Kr D tys w A a0) A) args s cells slots A) (F0 m pc ls [.ref a0]) := by
  obtain ⟨hP, hD, hS, hK, hA, hZ⟩ := hI
  exact W.aret hx hb hr (Or.inl ⟨_, rfl⟩) (Or.inr ⟨_, rfl⟩) (fun t ht hW => ⟨⟨σ, a0, rfl, h, rfl, by rw [ht]; exact hP, va_K.moved hW.alike hK, hD⟩, hS.F ht⟩) hS.2.2 hdg hlocks
theorem k_get (hx : p.tables.exec = Jvm.exec) (hb : c.code = cc) {own ref C : String} {T : u_T} {N ci index : Nat} {Ts : List Cond} (hts : ∀ w ∈ Ts, w.before args s = true) (hin : ∀ w ∈ u_ws C T N, w ∈ Ts) (hown : s.vm.findClass own = some m.cls) (hI : Iw D tys Nw Zs w A s H locs σ) (q0 : Nat) {fs : List Value} (he : (w σ)[q0]? = some (a, .inr (ci, fs))) (hc : vwCl[ci]? = some (C, T, N)) (k : Nat) (hk : k < N) (hm : Cond.fieldLink own index ref (T k).2.1 (T k).2.2.1 ∈ Ts) (href : (T k).1 = ref) {v : Value} (hv : fs[k]? = some v) (hdg : decode cc pc = .ok (.getfield index, 3))
    (kk : W p l e R s m args below meth c H locs cells slots Q (F0 m (pc + 3) ls (v :: rest))) : W p l e R s m args below meth c H locs cells slots Q (F0 m pc ls (.ref a :: rest)) := by
  subst href
  exact va_get hx hb hts hin hown hI.2.2.2.1 hI.1 q0 he hc k hk (hts _ hm) (fun _ h9 => h9) hv hdg kk
theorem k_put (hx : p.tables.exec = Jvm.exec) (hb : c.code = cc) {own ref C : String} {T : u_T} {N ci index : Nat} {Ts : List Cond} (hts : ∀ w ∈ Ts, w.before args s = true) (hin : ∀ w ∈ u_ws C T N, w ∈ Ts) (ty0 : Nat → FieldType) (hty : ∀ k, k < N → parseFieldDescriptor (T k).2.2.1 = some (ty0 k)) (hnm : ∀ a, a < N → ∀ b, b < N → a ≠ b → (T a).2.1 ≠ (T b).2.1) (hown : s.vm.findClass own = some m.cls) (hI : Iw D tys Nw Zs w A s H locs σ) (q0 : Nat) {fs : List Value} (he : (w σ)[q0]? = some (a, .inr (ci, fs))) (hc : vwCl[ci]? = some (C, T, N)) (k : Nat) (hk : k < N) (hm : Cond.fieldLink own index ref (T k).2.1 (T k).2.2.1 ∈ Ts) (href : (T k).1 = ref) (hfin : (T k).2.2.2 = false) {v : Value} (hn : narrow (ty0 k) v = v) (hfit : fits (ty0 k) v = true) (hl : k < fs.length) {σ' : St} (hw : (w σ).set q0 (a, .inr (ci, fs.set k v)) = w σ') (hdg : decode cc pc = .ok (.putfield index, 3))
    (kk : ∀ (H1 : Heap) (locs1 : List Loc), Iw D tys Nw Zs w A s H1 locs1 σ' → W p l e R s m args below meth c H1 locs1 cells slots Q (F0 m (pc + 3) ls rest)) : W p l e R s m args below meth c H locs cells slots Q (F0 m pc ls (v :: .ref a :: rest)) := by
  subst href
  obtain ⟨hP, hD, hS, hK, hA, hZ⟩ := hI
  refine va_put hx hb hts hin ty0 hty hnm hown hK hP hD hS q0 he hc k hk (hts _ hm) (fun _ h9 => h9) hfin (hty k hk) hn hfit hl hdg (fun H1 locs1 hP hD hS => ?_)
  rw [hw] at hP hD
  exact kk H1 locs1 ⟨hP, hD, hS, hK, hA, hZ⟩
theorem k_iald (hx : p.tables.exec = Jvm.exec) (hb : c.code = cc) (hI : Iw D tys Nw Zs w A s H locs σ) (q0 t0 : Nat) {cA : ClassId} {n : Nat} {f : Nat → Int32} (ha : (w σ)[q0]? = some (a, .inl (cA, n, .inl f))) (ht : tys[t0]? = some (cA, .int)) {i : Int32} (hin : vp_in i n) (hdg : decode cc pc = .ok (.iaload, 1))
    (kk : W p l e R s m args below meth c H locs cells slots Q (F0 m (pc + 1) ls (.int (f i.toNatClampNeg) :: rest))) : W p l e R s m args below meth c H locs cells slots Q (F0 m pc ls (.int i :: .ref a :: rest)) :=
  va_iald hx hb hI.2.2.2.1 hI.1 q0 t0 ha ht hin hdg kk
theorem k_zald (hx : p.tables.exec = Jvm.exec) (hb : c.code = cc) (hI : Iw D tys Nw Zs w A s H locs σ) (q0 t0 : Nat) {cA : ClassId} {n : Nat} {f : Nat → Int32} (ha : (w σ)[q0]? = some (a, .inl (cA, n, .inl f))) (ht : tys[t0]? = some (cA, .boolean)) {i : Int32} (hin : vp_in i n) (hdg : decode cc pc = .ok (.baload, 1))
    (kk : W p l e R s m args below meth c H locs cells slots Q (F0 m (pc + 1) ls (.int (f i.toNatClampNeg) :: rest))) : W p l e R s m args below meth c H locs cells slots Q (F0 m pc ls (.int i :: .ref a :: rest)) :=
  va_zald hx hb hI.2.2.2.1 hI.1 q0 t0 ha ht hin hdg kk
theorem k_iast (hx : p.tables.exec = Jvm.exec) (hb : c.code = cc) (hI : Iw D tys Nw Zs w A s H locs σ) (q0 t0 : Nat) {cA : ClassId} {n : Nat} {f : Nat → Int32} (ha : (w σ)[q0]? = some (a, .inl (cA, n, .inl f))) (ht : tys[t0]? = some (cA, .int)) {i x : Int32} (hin : vp_in i n) {σ' : St} (hw : (w σ).set q0 (a, .inl (cA, n, .inl (upd f i.toNatClampNeg x))) = w σ') (hdg : decode cc pc = .ok (.iastore, 1))
    (kk : ∀ (H1 : Heap) (locs1 : List Loc), Iw D tys Nw Zs w A s H1 locs1 σ' → W p l e R s m args below meth c H1 locs1 cells slots Q (F0 m (pc + 1) ls rest)) : W p l e R s m args below meth c H locs cells slots Q (F0 m pc ls (.int x :: .int i :: .ref a :: rest)) := by
  obtain ⟨hP, hD, hS, hK, hA, hZ⟩ := hI
  refine va_iast hx hb hK hP hD hS q0 t0 ha ht hin hdg (fun H1 locs1 hP hD hS => ?_)
  rw [hw] at hP hD
  exact kk H1 locs1 ⟨hP, hD, hS, hK, hA, hZ⟩
theorem k_zast (hx : p.tables.exec = Jvm.exec) (hb : c.code = cc) (hI : Iw D tys Nw Zs w A s H locs σ) (q0 t0 : Nat) {cA : ClassId} {n : Nat} {f : Nat → Int32} (ha : (w σ)[q0]? = some (a, .inl (cA, n, .inl f))) (ht : tys[t0]? = some (cA, .boolean)) {i x : Int32} (hin : vp_in i n) (hv : x = nI 0 ∨ x = nI 1) {σ' : St} (hw : (w σ).set q0 (a, .inl (cA, n, .inl (upd f i.toNatClampNeg x))) = w σ') (hdg : decode cc pc = .ok (.bastore, 1))
    (kk : ∀ (H1 : Heap) (locs1 : List Loc), Iw D tys Nw Zs w A s H1 locs1 σ' → W p l e R s m args below meth c H1 locs1 cells slots Q (F0 m (pc + 1) ls rest)) : W p l e R s m args below meth c H locs cells slots Q (F0 m pc ls (.int x :: .int i :: .ref a :: rest)) := by
  obtain ⟨hP, hD, hS, hK, hA, hZ⟩ := hI
  refine va_zast hx hb hK hP hD hS q0 t0 ha ht hin hdg (fun H1 locs1 hP hD hS => ?_)
  have e : vp_nar .boolean x = x := by rcases hv with rfl | rfl <;> rfl
  rw [e, hw] at hP hD
  exact kk H1 locs1 ⟨hP, hD, hS, hK, hA, hZ⟩
/-- a row of a static table -/
theorem k_gets (hx : p.tables.exec = Jvm.exec) (hb : c.code = cc) {own ref : String} {index : Nat} {Ts : List Cond} {q : Zrow} (hts : ∀ w ∈ Ts, w.before args s = true) (hown : s.vm.findClass own = some m.cls) (hI : Iw D tys Nw Zs w A s H locs σ) (hq : q ∈ Zs) (hm : Cond.fieldLink own index ref q.2.1 q.2.2.1 ∈ Ts) (href : q.1 = ref) (hdg : decode cc pc = .ok (.getstatic index, 3))
    (kk : W p l e R s m args below meth c H locs cells slots Q (F0 m (pc + 3) ls (.ref q.2.2.2.1 :: rest))) : W p l e R s m args below meth c H locs cells slots Q (F0 m pc ls rest) := by
  subst href
  obtain ⟨hP, hD, hS, hK, hA, hZ⟩ := hI
  exact va_gets hx hb (hZ.2 q hq).1 hS hown (hts _ hm) (fun _ h => h) hdg kk
end KROWS
section KCALLS
variable {p : Program} {l : Launch} {e : Env} {R : Room} {s : State} {m : MethodId} {args : Array Value} {below : List Frame} {meth : Method} {c : Code} {H : Heap} {locs : List Loc} {cells slots : Nat} {Q : State → Prop}
variable {cc : ByteArray} {pc : Nat} {ls : Array Slot} {rest st0 : List Value} {D : va_G} {A : Nat → Prop} {a : Nat} {tys : List (ClassId × FieldType)} {Nw : List Nrow} {Zs : List Zrow} {w : St → va_W} {σ : St}
variable {y : MethodName} {bytes : ByteArray} {maxL nL n index ci N : Nat} {ret : Option FieldType} {ws : List Cond} {rm : Room} {Ts : List Cond} {own C host : String} {T : u_T} {fs As : List Value}
theorem k_tiald (hx : p.tables.exec = Jvm.exec) (hb : c.code = cc) (hI : Iw D tys Nw Zs w A s H locs σ) {q : Zrow} (hq : q ∈ Zs) {i : Int32} (hin : vp_in i q.2.2.2.2.1) (hdg : decode cc pc = .ok (.iaload, 1))
    (kk : W p l e R s m args below meth c H locs cells slots Q (F0 m (pc + 1) ls (.int (q.2.2.2.2.2 i.toNatClampNeg) :: rest))) : W p l e R s m args below meth c H locs cells slots Q (F0 m pc ls (.int i :: .ref q.2.2.2.1 :: rest)) := by
  obtain ⟨hP, hD, hS, hK, hA, hZ⟩ := hI
  exact va_ti hx hb (hZ.2 q hq).2 hS hin rfl hdg kk
theorem k_cVi {post : Int32 → St → Prop} {ret2 : Option FieldType} (C0 : Cx p s m args meth c cc nL ret2 own Ts) (hM : Ci l D tys Nw Zs w y ws rm (.ref a :: As) σ post) (cw : CallW R s args own C index y bytes maxL ret ws rm 0 0 n) (hI : Iw D tys Nw Zs w A s H locs σ) (q0 : Nat) (he : (w σ)[q0]? = some (a, .inr (ci, fs))) (hc : vwCl[ci]? = some (C, T, N)) (hn : As.length = n) (hsz : ls.size = nL) (hst : st0 = As.reverse ++ .ref a :: rest) (hW : (rest.map fun v => v.category).sum ≤ 8) (hdg : decode cc pc = .ok (.invokevirtual index, 3)) (hf : cells ≤ R.cells ∧ slots ≤ R.slots)
    (kk : ∀ (r : Int32) (σ' : St) (H1 : Heap) (locs1 : List Loc), post r σ' → Iw D tys Nw Zs w A s H1 locs1 σ' → W p l e R s m args below meth c H1 locs1 cells slots Q (F0 m (pc + 3) ls (.int r :: rest))) : W p l e R s m args below meth c H locs cells slots Q (F0 m pc ls st0) := by
  have hF := hI.free
  exact va_calli (va_runV (As := As) (rest := rest) ⟨C0.1, C0.2.1, C0.2.2.2.1, C0.2.2.2.2.1, C0.2.2.2.2.2.1⟩ (hM H.size) cw ⟨Kp.blind, va_recv hI.2.2.2.1 hI.1 hc he, fun U hU hW => ⟨rfl, hI.pre hU hW⟩⟩ rfl hn hsz hst (lv_room hW) hdg hf) hI.2.2.1 (fun q _ h => hF q h) hF (fun r u t H1 locs1 ht _ hw hB _ _ hS => kk r u H1 locs1 hw (hI.back ht hB hS))
theorem k_cVv {post : St → Prop} {ret2 : Option FieldType} (C0 : Cx p s m args meth c cc nL ret2 own Ts) (hM : Cv l D tys Nw Zs w y ws rm (.ref a :: As) σ post) (cw : CallW R s args own C index y bytes maxL ret ws rm 0 0 n) (hI : Iw D tys Nw Zs w A s H locs σ) (q0 : Nat) (he : (w σ)[q0]? = some (a, .inr (ci, fs))) (hc : vwCl[ci]? = some (C, T, N)) (hn : As.length = n) (hsz : ls.size = nL) (hst : st0 = As.reverse ++ .ref a :: rest) (hW : (rest.map fun v => v.category).sum ≤ 8) (hdg : decode cc pc = .ok (.invokevirtual index, 3)) (hf : cells ≤ R.cells ∧ slots ≤ R.slots)
    (kk : ∀ (σ' : St) (H1 : Heap) (locs1 : List Loc), post σ' → Iw D tys Nw Zs w A s H1 locs1 σ' → W p l e R s m args below meth c H1 locs1 cells slots Q (F0 m (pc + 3) ls rest)) : W p l e R s m args below meth c H locs cells slots Q (F0 m pc ls st0) := by
  have hF := hI.free
  exact va_callv (va_runV (As := As) (rest := rest) ⟨C0.1, C0.2.1, C0.2.2.2.1, C0.2.2.2.2.1, C0.2.2.2.2.2.1⟩ (hM H.size) cw ⟨Kp.blind, va_recv hI.2.2.2.1 hI.1 hc he, fun U hU hW => ⟨rfl, hI.pre hU hW⟩⟩ rfl hn hsz hst (lv_room hW) hdg hf) hI.2.2.1 (fun q _ h => hF q h) hF (fun u t H1 locs1 ht _ hw hB _ _ hS => kk u H1 locs1 hw (hI.back ht hB hS))
theorem k_cVr {post : St → Prop} {a0 : Nat} {ret2 : Option FieldType} (C0 : Cx p s m args meth c cc nL ret2 own Ts) (hM : Cr l D tys Nw Zs w y ws rm (.ref a :: As) a0 σ post) (cw : CallW R s args own C index y bytes maxL ret ws rm 0 0 n) (hI : Iw D tys Nw Zs w A s H locs σ) (q0 : Nat) (he : (w σ)[q0]? = some (a, .inr (ci, fs))) (hc : vwCl[ci]? = some (C, T, N)) (hn : As.length = n) (hsz : ls.size = nL) (hst : st0 = As.reverse ++ .ref a :: rest) (hW : (rest.map fun v => v.category).sum ≤ 8) (hdg : decode cc pc = .ok (.invokevirtual index, 3)) (hf : cells ≤ R.cells ∧ slots ≤ R.slots)
    (kk : ∀ (σ' : St) (H1 : Heap) (locs1 : List Loc), post σ' → Iw D tys Nw Zs w A s H1 locs1 σ' → W p l e R s m args below meth c H1 locs1 cells slots Q (F0 m (pc + 3) ls (.ref a0 :: rest))) : W p l e R s m args below meth c H locs cells slots Q (F0 m pc ls st0) := by
  have hF := hI.free
  refine va_callr (va_runV (As := As) (rest := rest) ⟨C0.1, C0.2.1, C0.2.2.2.1, C0.2.2.2.2.1, C0.2.2.2.2.2.1⟩ (hM H.size) cw ⟨Kp.blind, va_recv hI.2.2.2.1 hI.1 hc he, fun U hU hW => ⟨rfl, hI.pre hU hW⟩⟩ rfl hn hsz hst (lv_room hW) hdg hf) hI.2.2.1 (fun q _ h => hF q h) hF (fun u ra t H1 locs1 ht _ hw hB _ _ hS => ?_)
  obtain ⟨rfl, hB⟩ := hB
  exact kk u H1 locs1 hw (hI.back ht hB hS)
theorem k_cSi {post : Int32 → St → Prop} {ret2 : Option FieldType} (C0 : Cx p s m args meth c cc nL ret2 own Ts) (hM : Ci l D tys Nw Zs w y ws rm As σ post) (cw : CallB R s args own index y bytes maxL ret ws rm 0 0 n ∧ (Cond.static y).before args s = true) (hI : Iw D tys Nw Zs w A s H locs σ) (hn : As.length = n) (hsz : ls.size = nL) (hst : st0 = As.reverse ++ rest) (hW : (rest.map fun v => v.category).sum ≤ 8) (hdg : decode cc pc = .ok (.invokestatic index, 3)) (hf : cells ≤ R.cells ∧ slots ≤ R.slots)
    (kk : ∀ (r : Int32) (σ' : St) (H1 : Heap) (locs1 : List Loc), post r σ' → Iw D tys Nw Zs w A s H1 locs1 σ' → W p l e R s m args below meth c H1 locs1 cells slots Q (F0 m (pc + 3) ls (.int r :: rest))) : W p l e R s m args below meth c H locs cells slots Q (F0 m pc ls st0) := by
  have hF := hI.free
  exact va_calli (va_runS (As := As) (rest := rest) ⟨C0.1, C0.2.1, C0.2.2.2.1, C0.2.2.2.2.1, C0.2.2.2.2.2.1⟩ (hM H.size) cw ⟨Kp.blind, fun U hU hW => ⟨rfl, hI.pre hU hW⟩⟩ rfl hn hsz hst (lv_room hW) hdg hf) hI.2.2.1 (fun q _ h => hF q h) hF (fun r u t H1 locs1 ht _ hw hB _ _ hS => kk r u H1 locs1 hw (hI.back ht hB hS))
theorem k_cNi {post : Int32 → St → Prop} {ws' : List Cond} {ret2 : Option FieldType} (C0 : Cx p s m args meth c cc nL ret2 own Ts) (hM : Ci l D tys Nw Zs w y ws rm As σ post) (hG : GoodIn Ts ws) (hw0 : ws = Cond.code y bytes maxL ret :: ws') (hrc : rm.cells = 0) (hrs : rm.slots = 0) (hN : (own, index, y, host) ∈ Nw) (hini : Cond.initialized y.cls ∈ Ts) (hstt : Cond.static y ∈ Ts)
    (hd : y.cls ≠ "java/lang/invoke/MethodHandle" ∧ y.cls ≠ "java/lang/invoke/VarHandle" ∧ (parseMethodDescriptor y.desc).map (fun d => d.parameters.length) = some n) (hR : rm.frames + 1 ≤ R.frames ∧ 8 + (maxL + 11) + rm.locals ≤ R.locals) (hI : Iw D tys Nw Zs w A s H locs σ) (hn : As.length = n) (hsz : ls.size = nL) (hst : st0 = As.reverse ++ rest) (hW : (rest.map fun v => v.category).sum ≤ 8) (hdg : decode cc pc = .ok (.invokestatic index, 3)) (hf : cells ≤ R.cells ∧ slots ≤ R.slots)
    (kk : ∀ (r : Int32) (σ' : St) (H1 : Heap) (locs1 : List Loc), post r σ' → Iw D tys Nw Zs w A s H1 locs1 σ' → W p l e R s m args below meth c H1 locs1 cells slots Q (F0 m (pc + 3) ls (.int r :: rest))) : W p l e R s m args below meth c H locs cells slots Q (F0 m pc ls st0) := by
  have hF := hI.free
  have hts := C0.2.2.2.2.2.1
  exact va_calli (va_runSN (As := As) (rest := rest) ⟨C0.1, C0.2.1, C0.2.2.2.1, C0.2.2.2.2.1, hts⟩ (hM H.size) ⟨va_cnB n hts hG hw0 hrc hrs (hI.2.2.2.2.2.1 _ hN) (hts _ hini) hd hR, hts _ hstt, trivial⟩ ⟨Kp.blind, fun U hU hW => ⟨rfl, hI.pre hU hW⟩⟩ rfl hn hsz hst (lv_room hW) hdg hf) hI.2.2.1 (fun q _ h => hF q h) hF (fun r u t H1 locs1 ht _ hw hB _ _ hS => kk r u H1 locs1 hw (hI.back ht hB hS))
theorem k_copy {ret2 : Option FieldType} (C0 : Cx p s m args meth c cc nL ret2 own Ts) (hml : ls.size = nL) (hlink : Cond.methodLink own index arraycopyName ∈ Ts) (hnat : Cond.native arraycopyName ∈ Ts) (hstat : Cond.static arraycopyName ∈ Ts) (hini : Cond.initialized "java/lang/System" ∈ Ts) (hI : Iw D tys Nw Zs w A s H locs σ) (q0 q1 t0 : Nat) {a0 : Nat} {c0 c1 : ClassId} {n0 n1 : Nat} {f g : Nat → Int32} (ha0 : (w σ)[q0]? = some (a0, .inl (c0, n0, .inl f))) (ha1 : (w σ)[q1]? = some (a, .inl (c1, n1, .inl g))) (ht0 : tys[t0]? = some (c0, .int)) (ht1 : tys[t0]? = some (c1, .int))
    {sp dp n : Int32} (h1 : ¬ sp < 0) (h2 : ¬ dp < 0) (h3 : ¬ n < 0) (h4 : sp.toNatClampNeg + n.toNatClampNeg ≤ n0) (h5 : dp.toNatClampNeg + n.toNatClampNeg ≤ n1) (hframes : 1 ≤ R.frames) (hlocals : (rest.map fun v => v.category).sum + (nativeFrameWords "java/lang/System" "arraycopy" 5 + 11) ≤ R.locals) {σ' : St} (hw : (w σ).set q1 (a, .inl (c1, n1, .inl (va_cpy f g sp.toNatClampNeg dp.toNatClampNeg n.toNatClampNeg))) = w σ') (hdg : decode cc pc = .ok (.invokestatic index, 3))
    (kk : ∀ (H1 : Heap) (locs1 : List Loc), Iw D tys Nw Zs w A s H1 locs1 σ' → W p l e R s m args below meth c H1 locs1 cells slots Q (F0 m (pc + 3) ls rest)) : W p l e R s m args below meth c H locs cells slots Q (F0 m pc ls (.int n :: .int dp :: .ref a :: .int sp :: .ref a0 :: rest)) := by
  obtain ⟨hP, hD, hS, hK, hA, hZ⟩ := hI
  obtain ⟨hx, hb, -, hmL, hown, hts, -⟩ := C0
  refine va_copyi hx hb (hmL.trans hml.symm) hown (hts _ hlink) (hts _ hnat) (hts _ hstat) (hts _ hini) hK hP hD hS q0 q1 t0 t0 ha0 ha1 ht0 ht1 rfl h1 h2 h3 h4 h5 (fun _ _ => rfl) hframes hlocals hdg (fun H1 locs1 hP hD hS => ?_)
  rw [hw] at hP hD
  exact kk H1 locs1 ⟨hP, hD, hS, hK, hA, hZ⟩
end KCALLS
theorem k_dec1 (x : Int32) : x + Int32.ofInt (-1) = x - nI 1 := by rw [Int32.sub_eq_add_neg]; rfl
theorem k_dec8 (x : Int32) : x + Int32.ofInt (-8) = x - nI 8 := by rw [Int32.sub_eq_add_neg]; rfl
section KMATH
variable {p : Program} {l : Launch} {e : Env} {R : Room} {s : State} {m : MethodId} {args : Array Value} {below : List Frame} {meth : Method} {c : Code} {H : Heap} {locs : List Loc} {cells slots : Nat} {Q : State → Prop}
variable {cc : ByteArray} {pc : Nat} {ls : Array Slot} {rest : List Value} {nL index : Nat} {Ts : List Cond} {own : String} {ret2 : Option FieldType}
theorem k_min (C0 : Cx p s m args meth c cc nL ret2 own Ts) (hml : ls.size = nL) (hlink : Cond.methodLink own index Lib.Math.min.name ∈ Ts) (hstat : Cond.static Lib.Math.min.name ∈ Ts) (hini : Cond.initialized "java/lang/Math" ∈ Ts) (hcode : Cond.code Lib.Math.min.name Lib.Math.min.code 2 (some .int) ∈ Ts)
    (hframes : 1 ≤ R.frames) (hlocals : (rest.map fun v => v.category).sum + 13 ≤ R.locals) (hc : cells ≤ R.cells) (hs : slots ≤ R.slots) {x y : Int32} (hdg : decode cc pc = .ok (.invokestatic index, 3))
    (kk : W p l e R s m args below meth c H locs cells slots Q (F0 m (pc + 3) ls (.int (if y < x then y else x) :: rest))) : W p l e R s m args below meth c H locs cells slots Q (F0 m pc ls (.int y :: .int x :: rest)) := by
  obtain ⟨hx, hb, -, hmL, hown, hts, -⟩ := C0
  exact va_mmin hx hb (hmL.trans hml.symm) hown (hts _ hlink) (hts _ hstat) (hts _ hini) (hts _ hcode) hframes hlocals hc hs hdg kk
theorem k_abs (C0 : Cx p s m args meth c cc nL ret2 own Ts) (hml : ls.size = nL) (hlink : Cond.methodLink own index Lib.Math.abs.name ∈ Ts) (hstat : Cond.static Lib.Math.abs.name ∈ Ts) (hini : Cond.initialized "java/lang/Math" ∈ Ts) (hcode : Cond.code Lib.Math.abs.name Lib.Math.abs.code 1 (some .int) ∈ Ts)
    (hframes : 1 ≤ R.frames) (hlocals : (rest.map fun v => v.category).sum + 13 ≤ R.locals) (hc : cells ≤ R.cells) (hs : slots ≤ R.slots) {x : Int32} (hdg : decode cc pc = .ok (.invokestatic index, 3))
    (kk : W p l e R s m args below meth c H locs cells slots Q (F0 m (pc + 3) ls (.int (if nI 0 ≤ x then x else nI 0 - x) :: rest))) : W p l e R s m args below meth c H locs cells slots Q (F0 m pc ls (.int x :: rest)) := by
  obtain ⟨hx, hb, -, hmL, hown, hts, -⟩ := C0
  exact va_mabs hx hb (hmL.trans hml.symm) hown (hts _ hlink) (hts _ hstat) (hts _ hini) (hts _ hcode) hframes hlocals hc hs hdg kk
end KMATH
